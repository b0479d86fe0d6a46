def y_Hub_clientRoom : MethodName := ⟨"SensorHub$Hub", "clientRoom", "(I)LSensorHub$Client;"⟩
theorem d_Hub_clientRoom_0 : decode prog_4_method_5_code 0 = .ok (.iload_n 1, 1) := by decide +kernel
theorem d_Hub_clientRoom_1 : decode prog_4_method_5_code 1 = .ok (.iconst 0, 1) := by decide +kernel
theorem d_Hub_clientRoom_2 : decode prog_4_method_5_code 2 = .ok (.bipush 7, 2) := by decide +kernel
theorem d_Hub_clientRoom_4 : decode prog_4_method_5_code 4 = .ok (.invokestatic 97, 3) := by decide +kernel
theorem d_Hub_clientRoom_7 : decode prog_4_method_5_code 7 = .ok (.ifCond .eq 12, 3) := by decide +kernel
theorem d_Hub_clientRoom_10 : decode prog_4_method_5_code 10 = .ok (.aload_n 0, 1) := by decide +kernel
theorem d_Hub_clientRoom_11 : decode prog_4_method_5_code 11 = .ok (.getfield 23, 3) := by decide +kernel
theorem d_Hub_clientRoom_14 : decode prog_4_method_5_code 14 = .ok (.iload_n 1, 1) := by decide +kernel
theorem d_Hub_clientRoom_15 : decode prog_4_method_5_code 15 = .ok (.aaload, 1) := by decide +kernel
theorem d_Hub_clientRoom_16 : decode prog_4_method_5_code 16 = .ok (.goto 4, 3) := by decide +kernel
theorem d_Hub_clientRoom_19 : decode prog_4_method_5_code 19 = .ok (.aconst_null, 1) := by decide +kernel
theorem d_Hub_clientRoom_20 : decode prog_4_method_5_code 20 = .ok (.areturn, 1) := by decide +kernel
theorem cs_2_97 : CSN "SensorHub$Hub" 97 y_X_isWithin "SensorHub" prog_1_method_24_code 3 (some .boolean) 3 := ⟨List.mem_of_getElem? (i := 4) rfl, gw_I 284 (by decide +kernel) rfl, gw_I 70 (by decide +kernel) rfl, gw_I 285 (by decide +kernel) rfl, ⟨by decide +kernel, by decide +kernel⟩, by decide +kernel⟩
theorem fs_2_23 : FS "SensorHub$Hub" 23 2 8 := ⟨"SensorHub$Hub", T_2, 11, rfl, by decide, rfl, gw_I 301 (by decide +kernel) rfl⟩
def f_Hub_clientRoom (q : Nat) (p1 : Int32) (σ : Mem) : Option ((Option Nat) × Mem) :=
  bd (f_X_isWithin p1 (0 : Int32) (7 : Int32) σ) fun r1 σ2 =>
  if r1 = 0 then
    some (none, σ2)
  else
    if ib p1 8 then
      some (some (q + 3 + (23 + 2 * p1.toNatClampNeg)), σ2)
    else none
set_option maxRecDepth 100000 in
set_option maxHeartbeats 4000000 in
theorem c_Hub_clientRoom {X : CX} (l : Launch) (q : Nat) (p1 : Int32) (hq : HubOK X q) (σ : Mem) : CT X l y_Hub_clientRoom prog_4_method_5_code 2 (some (.object "SensorHub$Client")) 1 (vQ X) [.ref (xa X q), .int p1] σ (f_Hub_clientRoom q p1 σ) := by
  refine CT_of (by decide +kernel) (Nat.le_of_ble_eq_true rfl) ?_
  intro p e s m args below meth c F hlk hr
  have F : FR p s m args c prog_4_method_5_code 2 "SensorHub$Hub" X := F
  show G X p l e (rmD 1) s m args below meth c 2 0 0 (QI X below args s (vQ X)) 0 [(0, .ref (xa X q)), (1, .int p1)] [] σ _
  unfold f_Hub_clientRoom
  refine g_iload_n F d_Hub_clientRoom_0 1 rfl ?_
  refine g_iconst F (v := 0) d_Hub_clientRoom_1 (by decide) ?_
  refine g_bipush F (v := 7) d_Hub_clientRoom_2 (by decide) ?_
  refine g_callSN F (dp := 0) (As := [.int p1, .int (0 : Int32), .int (7 : Int32)]) (c_X_isWithin l _ _ _ _) cs_2_97 rfl rfl (Nat.le_of_ble_eq_true rfl) ⟨Nat.le_of_ble_eq_true rfl, Nat.le_of_ble_eq_true rfl⟩ ⟨Nat.zero_le _, Nat.zero_le _⟩ d_Hub_clientRoom_4 (fun r1 σ2 h1 => ?_)
  refine g_if_eq F (tgt := 19) d_Hub_clientRoom_7 (by decide) (fun h2 => ?_) (fun h3 => ?_)
  · refine g_null F d_Hub_clientRoom_19 ?_
    exact g_aretN F hlk hr d_Hub_clientRoom_20
  refine g_aload_n F d_Hub_clientRoom_10 0 rfl ?_
  refine g_getR F fs_2_23 hq.1 rfl d_Hub_clientRoom_11 ?_
  refine g_iload_n F d_Hub_clientRoom_14 1 rfl ?_
  refine g_aald F 22 3 8 23 2 "SensorHub$Client" hq.2.2.2.1 (Or.inr (Or.inl ⟨rfl, rfl, rfl, rfl, rfl⟩)) rfl d_Hub_clientRoom_15 (fun h4 => ?_)
  refine g_goto F (tgt := 20) d_Hub_clientRoom_16 (by decide) ?_
  exact g_aret F hlk hr d_Hub_clientRoom_20
theorem at_Hub_clientRoom {q : Nat} {x : Int32} {σ σ' : Mem} {v : Nat} (h : f_Hub_clientRoom q x σ = some (some v, σ')) : ∃ j, j < 8 ∧ v = q + 3 + (23 + 2 * j) := by
  unfold f_Hub_clientRoom at h
  try simp only [bd, lt, f_X_isWithin] at h
  repeat' split at h
  all_goals first
    | (cases h; done)
    | (rename_i hib; simp only [Option.some.injEq, Prod.mk.injEq] at h; obtain ⟨rfl, -⟩ := h; exact ⟨_, ib_lt (by first | assumption | (rename_i q1; exact q1) | exact hib), rfl⟩)
    | (simp only [Option.some.injEq, Prod.mk.injEq] at h; obtain ⟨rfl, -⟩ := h; exact ⟨_, ib_lt (by assumption), rfl⟩)
    | (simp at h; done)
theorem ok_Hub_clientRoom {X : CX} {q : Nat} {x : Int32} {σ σ' : Mem} {v : Nat} (hq : HubOK X q) (h : f_Hub_clientRoom q x σ = some (some v, σ')) : ClientOK X v := by
  obtain ⟨j, hj, rfl⟩ := at_Hub_clientRoom h
  exact hq.2.2.2.2.2.2.2 j hj
def y_Hub_clear : MethodName := ⟨"SensorHub$Hub", "clear", "()V"⟩
theorem d_Hub_clear_0 : decode prog_4_method_2_code 0 = .ok (.aload_n 0, 1) := by decide +kernel
theorem d_Hub_clear_1 : decode prog_4_method_2_code 1 = .ok (.iconst 0, 1) := by decide +kernel
theorem d_Hub_clear_2 : decode prog_4_method_2_code 2 = .ok (.putfield 46, 3) := by decide +kernel
theorem d_Hub_clear_5 : decode prog_4_method_2_code 5 = .ok (.aload_n 0, 1) := by decide +kernel
theorem d_Hub_clear_6 : decode prog_4_method_2_code 6 = .ok (.iconst 0, 1) := by decide +kernel
theorem d_Hub_clear_7 : decode prog_4_method_2_code 7 = .ok (.putfield 50, 3) := by decide +kernel
theorem d_Hub_clear_10 : decode prog_4_method_2_code 10 = .ok (.aload_n 0, 1) := by decide +kernel
theorem d_Hub_clear_11 : decode prog_4_method_2_code 11 = .ok (.iconst 0, 1) := by decide +kernel
theorem d_Hub_clear_12 : decode prog_4_method_2_code 12 = .ok (.putfield 53, 3) := by decide +kernel
theorem d_Hub_clear_15 : decode prog_4_method_2_code 15 = .ok (.aload_n 0, 1) := by decide +kernel
theorem d_Hub_clear_16 : decode prog_4_method_2_code 16 = .ok (.bipush 10, 2) := by decide +kernel
theorem d_Hub_clear_18 : decode prog_4_method_2_code 18 = .ok (.putfield 56, 3) := by decide +kernel
theorem d_Hub_clear_21 : decode prog_4_method_2_code 21 = .ok (.aload_n 0, 1) := by decide +kernel
theorem d_Hub_clear_22 : decode prog_4_method_2_code 22 = .ok (.iconst 0, 1) := by decide +kernel
theorem d_Hub_clear_23 : decode prog_4_method_2_code 23 = .ok (.putfield 59, 3) := by decide +kernel
theorem d_Hub_clear_26 : decode prog_4_method_2_code 26 = .ok (.aload_n 0, 1) := by decide +kernel
theorem d_Hub_clear_27 : decode prog_4_method_2_code 27 = .ok (.getfield 30, 3) := by decide +kernel
theorem d_Hub_clear_30 : decode prog_4_method_2_code 30 = .ok (.iconst 0, 1) := by decide +kernel
theorem d_Hub_clear_31 : decode prog_4_method_2_code 31 = .ok (.putfield 62, 3) := by decide +kernel
theorem d_Hub_clear_34 : decode prog_4_method_2_code 34 = .ok (.aload_n 0, 1) := by decide +kernel
theorem d_Hub_clear_35 : decode prog_4_method_2_code 35 = .ok (.getfield 37, 3) := by decide +kernel
theorem d_Hub_clear_38 : decode prog_4_method_2_code 38 = .ok (.iconst 0, 1) := by decide +kernel
theorem d_Hub_clear_39 : decode prog_4_method_2_code 39 = .ok (.putfield 65, 3) := by decide +kernel
theorem d_Hub_clear_42 : decode prog_4_method_2_code 42 = .ok (.iconst 0, 1) := by decide +kernel
theorem d_Hub_clear_43 : decode prog_4_method_2_code 43 = .ok (.istore_n 1, 1) := by decide +kernel
theorem d_Hub_clear_44 : decode prog_4_method_2_code 44 = .ok (.iload_n 1, 1) := by decide +kernel
theorem d_Hub_clear_45 : decode prog_4_method_2_code 45 = .ok (.iconst 4, 1) := by decide +kernel
theorem d_Hub_clear_46 : decode prog_4_method_2_code 46 = .ok (.if_icmp .ge 16, 3) := by decide +kernel
theorem d_Hub_clear_49 : decode prog_4_method_2_code 49 = .ok (.aload_n 0, 1) := by decide +kernel
theorem d_Hub_clear_50 : decode prog_4_method_2_code 50 = .ok (.getfield 9, 3) := by decide +kernel
theorem d_Hub_clear_53 : decode prog_4_method_2_code 53 = .ok (.iload_n 1, 1) := by decide +kernel
theorem d_Hub_clear_54 : decode prog_4_method_2_code 54 = .ok (.iconst 0, 1) := by decide +kernel
theorem d_Hub_clear_55 : decode prog_4_method_2_code 55 = .ok (.iastore, 1) := by decide +kernel
theorem d_Hub_clear_56 : decode prog_4_method_2_code 56 = .ok (.iinc 1 1, 3) := by decide +kernel
theorem d_Hub_clear_59 : decode prog_4_method_2_code 59 = .ok (.goto (-15), 3) := by decide +kernel
theorem d_Hub_clear_62 : decode prog_4_method_2_code 62 = .ok (.iconst 0, 1) := by decide +kernel
theorem d_Hub_clear_63 : decode prog_4_method_2_code 63 = .ok (.istore_n 1, 1) := by decide +kernel
theorem d_Hub_clear_64 : decode prog_4_method_2_code 64 = .ok (.iload_n 1, 1) := by decide +kernel
theorem d_Hub_clear_65 : decode prog_4_method_2_code 65 = .ok (.bipush 8, 2) := by decide +kernel
theorem d_Hub_clear_67 : decode prog_4_method_2_code 67 = .ok (.if_icmp .ge 24, 3) := by decide +kernel
theorem d_Hub_clear_70 : decode prog_4_method_2_code 70 = .ok (.aload_n 0, 1) := by decide +kernel
theorem d_Hub_clear_71 : decode prog_4_method_2_code 71 = .ok (.iload_n 1, 1) := by decide +kernel
theorem d_Hub_clear_72 : decode prog_4_method_2_code 72 = .ok (.invokevirtual 66, 3) := by decide +kernel
theorem d_Hub_clear_75 : decode prog_4_method_2_code 75 = .ok (.astore_n 2, 1) := by decide +kernel
theorem d_Hub_clear_76 : decode prog_4_method_2_code 76 = .ok (.aload_n 2, 1) := by decide +kernel
theorem d_Hub_clear_77 : decode prog_4_method_2_code 77 = .ok (.ifnull 8, 3) := by decide +kernel
theorem d_Hub_clear_80 : decode prog_4_method_2_code 80 = .ok (.aload_n 2, 1) := by decide +kernel
theorem d_Hub_clear_81 : decode prog_4_method_2_code 81 = .ok (.iconst 0, 1) := by decide +kernel
theorem d_Hub_clear_82 : decode prog_4_method_2_code 82 = .ok (.putfield 70, 3) := by decide +kernel
theorem d_Hub_clear_85 : decode prog_4_method_2_code 85 = .ok (.iinc 1 1, 3) := by decide +kernel
theorem d_Hub_clear_88 : decode prog_4_method_2_code 88 = .ok (.goto (-24), 3) := by decide +kernel
theorem d_Hub_clear_91 : decode prog_4_method_2_code 91 = .ok (.return_, 1) := by decide +kernel
theorem fw_2_46 : FW "SensorHub$Hub" 46 2 0 .int := ⟨"SensorHub$Hub", T_2, 11, rfl, by decide, rfl, gw_I 286 (by decide +kernel) rfl, rfl, by decide +kernel⟩
theorem fw_2_50 : FW "SensorHub$Hub" 50 2 1 .int := ⟨"SensorHub$Hub", T_2, 11, rfl, by decide, rfl, gw_I 288 (by decide +kernel) rfl, rfl, by decide +kernel⟩
theorem fw_2_53 : FW "SensorHub$Hub" 53 2 2 .int := ⟨"SensorHub$Hub", T_2, 11, rfl, by decide, rfl, gw_I 290 (by decide +kernel) rfl, rfl, by decide +kernel⟩
theorem fw_2_56 : FW "SensorHub$Hub" 56 2 3 .int := ⟨"SensorHub$Hub", T_2, 11, rfl, by decide, rfl, gw_I 292 (by decide +kernel) rfl, rfl, by decide +kernel⟩
theorem fw_2_59 : FW "SensorHub$Hub" 59 2 4 .int := ⟨"SensorHub$Hub", T_2, 11, rfl, by decide, rfl, gw_I 294 (by decide +kernel) rfl, rfl, by decide +kernel⟩
theorem fs_2_30 : FS "SensorHub$Hub" 30 2 9 := ⟨"SensorHub$Hub", T_2, 11, rfl, by decide, rfl, gw_I 302 (by decide +kernel) rfl⟩
theorem fw_2_62 : FW "SensorHub$Hub" 62 3 0 .int := ⟨"SensorHub$Outages", T_3, 4, rfl, by decide, rfl, gw_I 110 (by decide +kernel) rfl, rfl, by decide +kernel⟩
theorem fs_2_37 : FS "SensorHub$Hub" 37 2 10 := ⟨"SensorHub$Hub", T_2, 11, rfl, by decide, rfl, gw_I 305 (by decide +kernel) rfl⟩
theorem fw_2_65 : FW "SensorHub$Hub" 65 5 0 .int := ⟨"SensorHub$Store", T_5, 2, rfl, by decide, rfl, gw_I 132 (by decide +kernel) rfl, rfl, by decide +kernel⟩
theorem fs_2_9 : FS "SensorHub$Hub" 9 2 6 := ⟨"SensorHub$Hub", T_2, 11, rfl, by decide, rfl, gw_I 299 (by decide +kernel) rfl⟩
theorem cv_2_66 : CSV "SensorHub$Hub" 66 y_Hub_clientRoom prog_4_method_5_code 2 (some (.object "SensorHub$Client")) 1 := ⟨gw_I 279 (by decide +kernel) rfl, gw_I 281 (by decide +kernel) rfl, gw_I 0 (by decide +kernel) rfl, gw_I 71 (by decide +kernel) rfl, gw_I 282 (by decide +kernel) rfl, ⟨by decide +kernel, by decide +kernel⟩, by decide +kernel⟩
theorem fw_2_70 : FW "SensorHub$Hub" 70 0 0 .boolean := ⟨"SensorHub$Client", T_0, 11, rfl, by decide, rfl, gw_I 227 (by decide +kernel) rfl, rfl, by decide +kernel⟩
def L_Hub_clear_44 (r0 : Nat) (k : Mem → Option (Unit × Mem)) : Nat → Int32 → Mem → Option (Unit × Mem)
  | 0, _, _ => none
  | n + 1, x1, σ =>
    if (4 : Int32) ≤ x1 then
      k σ
    else
      if ib x1 4 then
        lt (wr σ (r0 + 1) x1.toNatClampNeg (0 : Int32)) fun σ8 =>
        L_Hub_clear_44 r0 k n (x1 + 1) σ8
      else none
def L_Hub_clear_64 (r0 : Nat) (k : Mem → Option (Unit × Mem)) : Nat → Int32 → Mem → Option (Unit × Mem)
  | 0, _, _ => none
  | n + 1, x1, σ =>
    if (8 : Int32) ≤ x1 then
      k σ
    else
      bd (f_Hub_clientRoom r0 x1 σ) fun r10 σ11 =>
      oe r10 (
        L_Hub_clear_64 r0 k n (x1 + 1) σ11
      ) (fun o12 =>
        lt (wr σ11 o12 0 (0 : Int32)) fun σ13 =>
        L_Hub_clear_64 r0 k n (x1 + 1) σ13
      )
def f_Hub_clear (q : Nat) (σ : Mem) : Option (Unit × Mem) :=
  lt (wr σ q 0 (0 : Int32)) fun σ1 =>
  lt (wr σ1 q 1 (0 : Int32)) fun σ2 =>
  lt (wr σ2 q 2 (0 : Int32)) fun σ3 =>
  lt (wr σ3 q 3 (10 : Int32)) fun σ4 =>
  lt (wr σ4 q 4 (0 : Int32)) fun σ5 =>
  lt (wr σ5 (q + 4) 0 (0 : Int32)) fun σ6 =>
  lt (wr σ6 (q + 8) 0 (0 : Int32)) fun σ7 =>
  L_Hub_clear_44 q (fun σ9 =>
    L_Hub_clear_64 q (fun σ14 =>
      some ((), σ14)) FU (0 : Int32) σ9) FU (0 : Int32) σ7
set_option maxRecDepth 100000 in
set_option maxHeartbeats 4000000 in
theorem l_L_Hub_clear_44 {X : CX} {p : Program} {l : Launch} {e : Env} {s : State} {m : MethodId} {args : Array Value} {below : List Frame} {meth : Method} {c : Code} (F : FR p s m args c prog_4_method_2_code 3 "SensorHub$Hub" X) (hlk : meth.locks = false) (hr : meth.sig.returnType = none) (r0 : Nat) (hr0 : HubOK X r0) (k : Mem → Option (Unit × Mem)) (hk : ∀  (σ : Mem), G X p l e (rmD 2) s m args below meth c 3 0 0 (QI X below args s vU) 62 [(0, .ref (xa X r0))] [] σ (k σ)) : ∀ (n : Nat) (x1 : Int32) (σ : Mem), G X p l e (rmD 2) s m args below meth c 3 0 0 (QI X below args s vU) 44 [(0, .ref (xa X r0)), (1, .int x1)] [] σ (L_Hub_clear_44 r0 k n x1 σ) := by
  intro n
  induction n with
  | zero => intros; exact g_no
  | succ n ih =>
    intro x1 σ
    unfold L_Hub_clear_44
    refine g_iload_n F d_Hub_clear_44 1 rfl ?_
    refine g_iconst F (v := 4) d_Hub_clear_45 (by decide) ?_
    refine g_icmp_ge F (tgt := 62) d_Hub_clear_46 (by decide) (fun h1 => ?_) (fun h2 => ?_)
    · exact g_sub [0] rfl (hk  _)
    refine g_aload_n F d_Hub_clear_49 0 rfl ?_
    refine g_getR F fs_2_9 hr0.1 rfl d_Hub_clear_50 ?_
    refine g_iload_n F d_Hub_clear_53 1 rfl ?_
    refine g_iconst F (v := 0) d_Hub_clear_54 (by decide) ?_
    refine g_iast F (n := 4) hr0.2.1 d_Hub_clear_55 ?_
    refine g_ltM (fun σ8 _ => ?_)
    refine g_iinc F (v := 1) (ls' := [(1, .int (x1 + 1)), (0, .ref (xa X r0))]) d_Hub_clear_56 1 rfl (by decide) (by decide) rfl ?_
    refine g_goto F (tgt := 44) d_Hub_clear_59 (by decide) ?_
    exact g_sub [1, 0] rfl (ih _ _)
set_option maxRecDepth 100000 in
set_option maxHeartbeats 4000000 in
theorem l_L_Hub_clear_64 {X : CX} {p : Program} {l : Launch} {e : Env} {s : State} {m : MethodId} {args : Array Value} {below : List Frame} {meth : Method} {c : Code} (F : FR p s m args c prog_4_method_2_code 3 "SensorHub$Hub" X) (hlk : meth.locks = false) (hr : meth.sig.returnType = none) (r0 : Nat) (hr0 : HubOK X r0) (k : Mem → Option (Unit × Mem)) (hk : ∀  (σ : Mem), G X p l e (rmD 2) s m args below meth c 3 0 0 (QI X below args s vU) 91 [] [] σ (k σ)) : ∀ (n : Nat) (x1 : Int32) (σ : Mem), G X p l e (rmD 2) s m args below meth c 3 0 0 (QI X below args s vU) 64 [(0, .ref (xa X r0)), (1, .int x1)] [] σ (L_Hub_clear_64 r0 k n x1 σ) := by
  intro n
  induction n with
  | zero => intros; exact g_no
  | succ n ih =>
    intro x1 σ
    unfold L_Hub_clear_64
    refine g_iload_n F d_Hub_clear_64 1 rfl ?_
    refine g_bipush F (v := 8) d_Hub_clear_65 (by decide) ?_
    refine g_icmp_ge F (tgt := 91) d_Hub_clear_67 (by decide) (fun h3 => ?_) (fun h4 => ?_)
    · exact g_sub [] rfl (hk  _)
    refine g_aload_n F d_Hub_clear_70 0 rfl ?_
    refine g_iload_n F d_Hub_clear_71 1 rfl ?_
    refine g_callV F (dp := 1) (ci := 2) (As := [.int x1]) (c_Hub_clientRoom l _ _ hr0 _) cv_2_66 hr0.1 rfl rfl rfl (Nat.le_of_ble_eq_true rfl) ⟨Nat.le_of_ble_eq_true rfl, Nat.le_of_ble_eq_true rfl⟩ ⟨Nat.zero_le _, Nat.zero_le _⟩ d_Hub_clear_72 (fun r10 σ11 h5 => ?_)
    refine g_oe (fun h6 => ?_) (fun o12 h7 => ?_)
    · refine g_astore_nN F (ls' := [(2, .null), (0, .ref (xa X r0)), (1, .int x1)]) d_Hub_clear_75 (by decide) rfl ?_
      refine g_aload_nN F d_Hub_clear_76 0 rfl ?_
      refine g_ifnullN F (tgt := 85) d_Hub_clear_77 (by decide) ?_
      refine g_iinc F (v := 1) (ls' := [(1, .int (x1 + 1)), (2, .null), (0, .ref (xa X r0))]) d_Hub_clear_85 2 rfl (by decide) (by decide) rfl ?_
      refine g_goto F (tgt := 64) d_Hub_clear_88 (by decide) ?_
      exact g_sub [2, 0] rfl (ih _ _)
    have h8 : ClientOK X o12 := ok_Hub_clientRoom hr0 (h7 ▸ h5)
    refine g_astore_n F (ls' := [(2, .ref (xa X o12)), (0, .ref (xa X r0)), (1, .int x1)]) d_Hub_clear_75 (by decide) rfl ?_
    refine g_aload_n F d_Hub_clear_76 0 rfl ?_
    refine g_ifnull F d_Hub_clear_77 ?_
    refine g_aload_n F d_Hub_clear_80 0 rfl ?_
    refine g_iconst F (v := 0) d_Hub_clear_81 (by decide) ?_
    refine g_pt (q := (0 : Int32) &&& 1 = (0 : Int32)) (by decide) (g_putZ F fw_2_70 h8.1 rfl d_Hub_clear_82 ?_)
    refine g_ltM (fun σ13 _ => ?_)
    refine g_iinc F (v := 1) (ls' := [(1, .int (x1 + 1)), (2, .ref (xa X o12)), (0, .ref (xa X r0))]) d_Hub_clear_85 2 rfl (by decide) (by decide) rfl ?_
    refine g_goto F (tgt := 64) d_Hub_clear_88 (by decide) ?_
    exact g_sub [2, 0] rfl (ih _ _)
set_option maxRecDepth 100000 in
set_option maxHeartbeats 4000000 in
theorem c_Hub_clear {X : CX} (l : Launch) (q : Nat) (hq : HubOK X q) (σ : Mem) : CT X l y_Hub_clear prog_4_method_2_code 3 none 2 vU [.ref (xa X q)] σ (f_Hub_clear q σ) := by
  refine CT_of (by decide +kernel) (Nat.le_of_ble_eq_true rfl) ?_
  intro p e s m args below meth c F hlk hr
  have F : FR p s m args c prog_4_method_2_code 3 "SensorHub$Hub" X := F
  show G X p l e (rmD 2) s m args below meth c 3 0 0 (QI X below args s vU) 0 [(0, .ref (xa X q))] [] σ _
  unfold f_Hub_clear
  refine g_aload_n F d_Hub_clear_0 0 rfl ?_
  refine g_iconst F (v := 0) d_Hub_clear_1 (by decide) ?_
  refine g_putI F fw_2_46 hq.1 rfl d_Hub_clear_2 ?_
  refine g_ltM (fun σ1 _ => ?_)
  refine g_aload_n F d_Hub_clear_5 0 rfl ?_
  refine g_iconst F (v := 0) d_Hub_clear_6 (by decide) ?_
  refine g_putI F fw_2_50 hq.1 rfl d_Hub_clear_7 ?_
  refine g_ltM (fun σ2 _ => ?_)
  refine g_aload_n F d_Hub_clear_10 0 rfl ?_
  refine g_iconst F (v := 0) d_Hub_clear_11 (by decide) ?_
  refine g_putI F fw_2_53 hq.1 rfl d_Hub_clear_12 ?_
  refine g_ltM (fun σ3 _ => ?_)
  refine g_aload_n F d_Hub_clear_15 0 rfl ?_
  refine g_bipush F (v := 10) d_Hub_clear_16 (by decide) ?_
  refine g_putI F fw_2_56 hq.1 rfl d_Hub_clear_18 ?_
  refine g_ltM (fun σ4 _ => ?_)
  refine g_aload_n F d_Hub_clear_21 0 rfl ?_
  refine g_iconst F (v := 0) d_Hub_clear_22 (by decide) ?_
  refine g_putI F fw_2_59 hq.1 rfl d_Hub_clear_23 ?_
  refine g_ltM (fun σ5 _ => ?_)
  refine g_aload_n F d_Hub_clear_26 0 rfl ?_
  refine g_getR F fs_2_30 hq.1 rfl d_Hub_clear_27 ?_
  refine g_iconst F (v := 0) d_Hub_clear_30 (by decide) ?_
  refine g_putI F fw_2_62 hq.2.2.2.2.1.1 rfl d_Hub_clear_31 ?_
  refine g_ltM (fun σ6 _ => ?_)
  refine g_aload_n F d_Hub_clear_34 0 rfl ?_
  refine g_getR F fs_2_37 hq.1 rfl d_Hub_clear_35 ?_
  refine g_iconst F (v := 0) d_Hub_clear_38 (by decide) ?_
  refine g_putI F fw_2_65 hq.2.2.2.2.2.1.1 rfl d_Hub_clear_39 ?_
  refine g_ltM (fun σ7 _ => ?_)
  refine g_iconst F (v := 0) d_Hub_clear_42 (by decide) ?_
  refine g_istore_n F (ls' := [(1, .int (0 : Int32)), (0, .ref (xa X q))]) d_Hub_clear_43 (by decide) rfl ?_
  refine g_sub [1, 0] rfl (l_L_Hub_clear_44 F hlk hr _ hq _ (fun σ9 => ?_) FU _ _)
  refine g_iconst F (v := 0) d_Hub_clear_62 (by decide) ?_
  refine g_istore_n F (ls' := [(1, .int (0 : Int32)), (0, .ref (xa X q))]) d_Hub_clear_63 (by decide) rfl ?_
  refine g_sub [1, 0] rfl (l_L_Hub_clear_64 F hlk hr _ hq _ (fun σ14 => ?_) FU _ _)
  exact g_vret F hlk hr d_Hub_clear_91
def y_Hub_sensorRoom : MethodName := ⟨"SensorHub$Hub", "sensorRoom", "(I)LSensorHub$Sensor;"⟩
theorem d_Hub_sensorRoom_0 : decode prog_4_method_4_code 0 = .ok (.iload_n 1, 1) := by decide +kernel
theorem d_Hub_sensorRoom_1 : decode prog_4_method_4_code 1 = .ok (.iconst 0, 1) := by decide +kernel
theorem d_Hub_sensorRoom_2 : decode prog_4_method_4_code 2 = .ok (.bipush 7, 2) := by decide +kernel
theorem d_Hub_sensorRoom_4 : decode prog_4_method_4_code 4 = .ok (.invokestatic 97, 3) := by decide +kernel
theorem d_Hub_sensorRoom_7 : decode prog_4_method_4_code 7 = .ok (.ifCond .eq 12, 3) := by decide +kernel
theorem d_Hub_sensorRoom_10 : decode prog_4_method_4_code 10 = .ok (.aload_n 0, 1) := by decide +kernel
theorem d_Hub_sensorRoom_11 : decode prog_4_method_4_code 11 = .ok (.getfield 17, 3) := by decide +kernel
theorem d_Hub_sensorRoom_14 : decode prog_4_method_4_code 14 = .ok (.iload_n 1, 1) := by decide +kernel
theorem d_Hub_sensorRoom_15 : decode prog_4_method_4_code 15 = .ok (.aaload, 1) := by decide +kernel
theorem d_Hub_sensorRoom_16 : decode prog_4_method_4_code 16 = .ok (.goto 4, 3) := by decide +kernel
theorem d_Hub_sensorRoom_19 : decode prog_4_method_4_code 19 = .ok (.aconst_null, 1) := by decide +kernel
theorem d_Hub_sensorRoom_20 : decode prog_4_method_4_code 20 = .ok (.areturn, 1) := by decide +kernel
theorem fs_2_17 : FS "SensorHub$Hub" 17 2 7 := ⟨"SensorHub$Hub", T_2, 11, rfl, by decide, rfl, gw_I 300 (by decide +kernel) rfl⟩
def f_Hub_sensorRoom (q : Nat) (p1 : Int32) (σ : Mem) : Option ((Option Nat) × Mem) :=
  bd (f_X_isWithin p1 (0 : Int32) (7 : Int32) σ) fun r1 σ2 =>
  if r1 = 0 then
    some (none, σ2)
  else
    if ib p1 8 then
      some (some (q + 2 + (8 + 2 * p1.toNatClampNeg)), σ2)
    else none
set_option maxRecDepth 100000 in
set_option maxHeartbeats 4000000 in
theorem c_Hub_sensorRoom {X : CX} (l : Launch) (q : Nat) (p1 : Int32) (hq : HubOK X q) (σ : Mem) : CT X l y_Hub_sensorRoom prog_4_method_4_code 2 (some (.object "SensorHub$Sensor")) 1 (vQ X) [.ref (xa X q), .int p1] σ (f_Hub_sensorRoom q p1 σ) := by
  refine CT_of (by decide +kernel) (Nat.le_of_ble_eq_true rfl) ?_
  intro p e s m args below meth c F hlk hr
  have F : FR p s m args c prog_4_method_4_code 2 "SensorHub$Hub" X := F
  show G X p l e (rmD 1) s m args below meth c 2 0 0 (QI X below args s (vQ X)) 0 [(0, .ref (xa X q)), (1, .int p1)] [] σ _
  unfold f_Hub_sensorRoom
  refine g_iload_n F d_Hub_sensorRoom_0 1 rfl ?_
  refine g_iconst F (v := 0) d_Hub_sensorRoom_1 (by decide) ?_
  refine g_bipush F (v := 7) d_Hub_sensorRoom_2 (by decide) ?_
  refine g_callSN F (dp := 0) (As := [.int p1, .int (0 : Int32), .int (7 : Int32)]) (c_X_isWithin l _ _ _ _) cs_2_97 rfl rfl (Nat.le_of_ble_eq_true rfl) ⟨Nat.le_of_ble_eq_true rfl, Nat.le_of_ble_eq_true rfl⟩ ⟨Nat.zero_le _, Nat.zero_le _⟩ d_Hub_sensorRoom_4 (fun r1 σ2 h1 => ?_)
  refine g_if_eq F (tgt := 19) d_Hub_sensorRoom_7 (by decide) (fun h2 => ?_) (fun h3 => ?_)
  · refine g_null F d_Hub_sensorRoom_19 ?_
    exact g_aretN F hlk hr d_Hub_sensorRoom_20
  refine g_aload_n F d_Hub_sensorRoom_10 0 rfl ?_
  refine g_getR F fs_2_17 hq.1 rfl d_Hub_sensorRoom_11 ?_
  refine g_iload_n F d_Hub_sensorRoom_14 1 rfl ?_
  refine g_aald F 21 2 8 8 2 "SensorHub$Sensor" hq.2.2.1 (Or.inl ⟨rfl, rfl, rfl, rfl, rfl⟩) rfl d_Hub_sensorRoom_15 (fun h4 => ?_)
  refine g_goto F (tgt := 20) d_Hub_sensorRoom_16 (by decide) ?_
  exact g_aret F hlk hr d_Hub_sensorRoom_20
theorem at_Hub_sensorRoom {q : Nat} {x : Int32} {σ σ' : Mem} {v : Nat} (h : f_Hub_sensorRoom q x σ = some (some v, σ')) : ∃ j, j < 8 ∧ v = q + 2 + (8 + 2 * j) := by
  unfold f_Hub_sensorRoom at h
  try simp only [bd, lt, f_X_isWithin] at h
  repeat' split at h
  all_goals first
    | (cases h; done)
    | (rename_i hib; simp only [Option.some.injEq, Prod.mk.injEq] at h; obtain ⟨rfl, -⟩ := h; exact ⟨_, ib_lt (by first | assumption | (rename_i q1; exact q1) | exact hib), rfl⟩)
    | (simp only [Option.some.injEq, Prod.mk.injEq] at h; obtain ⟨rfl, -⟩ := h; exact ⟨_, ib_lt (by assumption), rfl⟩)
    | (simp at h; done)
theorem ok_Hub_sensorRoom {X : CX} {q : Nat} {x : Int32} {σ σ' : Mem} {v : Nat} (hq : HubOK X q) (h : f_Hub_sensorRoom q x σ = some (some v, σ')) : SensorOK X v := by
  obtain ⟨j, hj, rfl⟩ := at_Hub_sensorRoom h
  exact hq.2.2.2.2.2.2.1 j hj
def y_Hub_copyFrom : MethodName := ⟨"SensorHub$Hub", "copyFrom", "(LSensorHub$Hub;)V"⟩
theorem d_Hub_copyFrom_0 : decode prog_4_method_3_code 0 = .ok (.aload_n 0, 1) := by decide +kernel
theorem d_Hub_copyFrom_1 : decode prog_4_method_3_code 1 = .ok (.aload_n 1, 1) := by decide +kernel
theorem d_Hub_copyFrom_2 : decode prog_4_method_3_code 2 = .ok (.getfield 46, 3) := by decide +kernel
theorem d_Hub_copyFrom_5 : decode prog_4_method_3_code 5 = .ok (.putfield 46, 3) := by decide +kernel
theorem d_Hub_copyFrom_8 : decode prog_4_method_3_code 8 = .ok (.aload_n 0, 1) := by decide +kernel
theorem d_Hub_copyFrom_9 : decode prog_4_method_3_code 9 = .ok (.aload_n 1, 1) := by decide +kernel
theorem d_Hub_copyFrom_10 : decode prog_4_method_3_code 10 = .ok (.getfield 50, 3) := by decide +kernel
theorem d_Hub_copyFrom_13 : decode prog_4_method_3_code 13 = .ok (.putfield 50, 3) := by decide +kernel
theorem d_Hub_copyFrom_16 : decode prog_4_method_3_code 16 = .ok (.aload_n 0, 1) := by decide +kernel
theorem d_Hub_copyFrom_17 : decode prog_4_method_3_code 17 = .ok (.aload_n 1, 1) := by decide +kernel
theorem d_Hub_copyFrom_18 : decode prog_4_method_3_code 18 = .ok (.getfield 53, 3) := by decide +kernel
theorem d_Hub_copyFrom_21 : decode prog_4_method_3_code 21 = .ok (.putfield 53, 3) := by decide +kernel
theorem d_Hub_copyFrom_24 : decode prog_4_method_3_code 24 = .ok (.aload_n 0, 1) := by decide +kernel
theorem d_Hub_copyFrom_25 : decode prog_4_method_3_code 25 = .ok (.aload_n 1, 1) := by decide +kernel
theorem d_Hub_copyFrom_26 : decode prog_4_method_3_code 26 = .ok (.getfield 56, 3) := by decide +kernel
theorem d_Hub_copyFrom_29 : decode prog_4_method_3_code 29 = .ok (.putfield 56, 3) := by decide +kernel
theorem d_Hub_copyFrom_32 : decode prog_4_method_3_code 32 = .ok (.aload_n 0, 1) := by decide +kernel
theorem d_Hub_copyFrom_33 : decode prog_4_method_3_code 33 = .ok (.aload_n 1, 1) := by decide +kernel
theorem d_Hub_copyFrom_34 : decode prog_4_method_3_code 34 = .ok (.getfield 59, 3) := by decide +kernel
theorem d_Hub_copyFrom_37 : decode prog_4_method_3_code 37 = .ok (.putfield 59, 3) := by decide +kernel
theorem d_Hub_copyFrom_40 : decode prog_4_method_3_code 40 = .ok (.aload_n 1, 1) := by decide +kernel
theorem d_Hub_copyFrom_41 : decode prog_4_method_3_code 41 = .ok (.getfield 9, 3) := by decide +kernel
theorem d_Hub_copyFrom_44 : decode prog_4_method_3_code 44 = .ok (.iconst 0, 1) := by decide +kernel
theorem d_Hub_copyFrom_45 : decode prog_4_method_3_code 45 = .ok (.aload_n 0, 1) := by decide +kernel
theorem d_Hub_copyFrom_46 : decode prog_4_method_3_code 46 = .ok (.getfield 9, 3) := by decide +kernel
theorem d_Hub_copyFrom_49 : decode prog_4_method_3_code 49 = .ok (.iconst 0, 1) := by decide +kernel
theorem d_Hub_copyFrom_50 : decode prog_4_method_3_code 50 = .ok (.iconst 4, 1) := by decide +kernel
theorem d_Hub_copyFrom_51 : decode prog_4_method_3_code 51 = .ok (.invokestatic 74, 3) := by decide +kernel
theorem d_Hub_copyFrom_54 : decode prog_4_method_3_code 54 = .ok (.aload_n 0, 1) := by decide +kernel
theorem d_Hub_copyFrom_55 : decode prog_4_method_3_code 55 = .ok (.getfield 30, 3) := by decide +kernel
theorem d_Hub_copyFrom_58 : decode prog_4_method_3_code 58 = .ok (.aload_n 1, 1) := by decide +kernel
theorem d_Hub_copyFrom_59 : decode prog_4_method_3_code 59 = .ok (.getfield 30, 3) := by decide +kernel
theorem d_Hub_copyFrom_62 : decode prog_4_method_3_code 62 = .ok (.invokevirtual 80, 3) := by decide +kernel
theorem d_Hub_copyFrom_65 : decode prog_4_method_3_code 65 = .ok (.aload_n 0, 1) := by decide +kernel
theorem d_Hub_copyFrom_66 : decode prog_4_method_3_code 66 = .ok (.getfield 37, 3) := by decide +kernel
theorem d_Hub_copyFrom_69 : decode prog_4_method_3_code 69 = .ok (.aload_n 1, 1) := by decide +kernel
theorem d_Hub_copyFrom_70 : decode prog_4_method_3_code 70 = .ok (.getfield 37, 3) := by decide +kernel
theorem d_Hub_copyFrom_73 : decode prog_4_method_3_code 73 = .ok (.invokevirtual 84, 3) := by decide +kernel
theorem d_Hub_copyFrom_76 : decode prog_4_method_3_code 76 = .ok (.iconst 0, 1) := by decide +kernel
theorem d_Hub_copyFrom_77 : decode prog_4_method_3_code 77 = .ok (.istore_n 2, 1) := by decide +kernel
theorem d_Hub_copyFrom_78 : decode prog_4_method_3_code 78 = .ok (.iload_n 2, 1) := by decide +kernel
theorem d_Hub_copyFrom_79 : decode prog_4_method_3_code 79 = .ok (.bipush 8, 2) := by decide +kernel
theorem d_Hub_copyFrom_81 : decode prog_4_method_3_code 81 = .ok (.if_icmp .ge 37, 3) := by decide +kernel
theorem d_Hub_copyFrom_84 : decode prog_4_method_3_code 84 = .ok (.aload_n 0, 1) := by decide +kernel
theorem d_Hub_copyFrom_85 : decode prog_4_method_3_code 85 = .ok (.iload_n 2, 1) := by decide +kernel
theorem d_Hub_copyFrom_86 : decode prog_4_method_3_code 86 = .ok (.invokevirtual 87, 3) := by decide +kernel
theorem d_Hub_copyFrom_89 : decode prog_4_method_3_code 89 = .ok (.astore_n 3, 1) := by decide +kernel
theorem d_Hub_copyFrom_90 : decode prog_4_method_3_code 90 = .ok (.aload_n 1, 1) := by decide +kernel
theorem d_Hub_copyFrom_91 : decode prog_4_method_3_code 91 = .ok (.iload_n 2, 1) := by decide +kernel
theorem d_Hub_copyFrom_92 : decode prog_4_method_3_code 92 = .ok (.invokevirtual 87, 3) := by decide +kernel
theorem d_Hub_copyFrom_95 : decode prog_4_method_3_code 95 = .ok (.astore 4, 2) := by decide +kernel
theorem d_Hub_copyFrom_97 : decode prog_4_method_3_code 97 = .ok (.aload_n 3, 1) := by decide +kernel
theorem d_Hub_copyFrom_98 : decode prog_4_method_3_code 98 = .ok (.ifnull 14, 3) := by decide +kernel
theorem d_Hub_copyFrom_101 : decode prog_4_method_3_code 101 = .ok (.aload 4, 2) := by decide +kernel
theorem d_Hub_copyFrom_103 : decode prog_4_method_3_code 103 = .ok (.ifnull 9, 3) := by decide +kernel
theorem d_Hub_copyFrom_106 : decode prog_4_method_3_code 106 = .ok (.aload_n 3, 1) := by decide +kernel
theorem d_Hub_copyFrom_107 : decode prog_4_method_3_code 107 = .ok (.aload 4, 2) := by decide +kernel
theorem d_Hub_copyFrom_109 : decode prog_4_method_3_code 109 = .ok (.invokevirtual 91, 3) := by decide +kernel
theorem d_Hub_copyFrom_112 : decode prog_4_method_3_code 112 = .ok (.iinc 2 1, 3) := by decide +kernel
theorem d_Hub_copyFrom_115 : decode prog_4_method_3_code 115 = .ok (.goto (-37), 3) := by decide +kernel
theorem d_Hub_copyFrom_118 : decode prog_4_method_3_code 118 = .ok (.iconst 0, 1) := by decide +kernel
theorem d_Hub_copyFrom_119 : decode prog_4_method_3_code 119 = .ok (.istore_n 2, 1) := by decide +kernel
theorem d_Hub_copyFrom_120 : decode prog_4_method_3_code 120 = .ok (.iload_n 2, 1) := by decide +kernel
theorem d_Hub_copyFrom_121 : decode prog_4_method_3_code 121 = .ok (.bipush 8, 2) := by decide +kernel
theorem d_Hub_copyFrom_123 : decode prog_4_method_3_code 123 = .ok (.if_icmp .ge 37, 3) := by decide +kernel
theorem d_Hub_copyFrom_126 : decode prog_4_method_3_code 126 = .ok (.aload_n 0, 1) := by decide +kernel
theorem d_Hub_copyFrom_127 : decode prog_4_method_3_code 127 = .ok (.iload_n 2, 1) := by decide +kernel
theorem d_Hub_copyFrom_128 : decode prog_4_method_3_code 128 = .ok (.invokevirtual 66, 3) := by decide +kernel
theorem d_Hub_copyFrom_131 : decode prog_4_method_3_code 131 = .ok (.astore_n 3, 1) := by decide +kernel
theorem d_Hub_copyFrom_132 : decode prog_4_method_3_code 132 = .ok (.aload_n 1, 1) := by decide +kernel
theorem d_Hub_copyFrom_133 : decode prog_4_method_3_code 133 = .ok (.iload_n 2, 1) := by decide +kernel
theorem d_Hub_copyFrom_134 : decode prog_4_method_3_code 134 = .ok (.invokevirtual 66, 3) := by decide +kernel
theorem d_Hub_copyFrom_137 : decode prog_4_method_3_code 137 = .ok (.astore 4, 2) := by decide +kernel
theorem d_Hub_copyFrom_139 : decode prog_4_method_3_code 139 = .ok (.aload_n 3, 1) := by decide +kernel
theorem d_Hub_copyFrom_140 : decode prog_4_method_3_code 140 = .ok (.ifnull 14, 3) := by decide +kernel
theorem d_Hub_copyFrom_143 : decode prog_4_method_3_code 143 = .ok (.aload 4, 2) := by decide +kernel
theorem d_Hub_copyFrom_145 : decode prog_4_method_3_code 145 = .ok (.ifnull 9, 3) := by decide +kernel
theorem d_Hub_copyFrom_148 : decode prog_4_method_3_code 148 = .ok (.aload_n 3, 1) := by decide +kernel
theorem d_Hub_copyFrom_149 : decode prog_4_method_3_code 149 = .ok (.aload 4, 2) := by decide +kernel
theorem d_Hub_copyFrom_151 : decode prog_4_method_3_code 151 = .ok (.invokevirtual 94, 3) := by decide +kernel
theorem d_Hub_copyFrom_154 : decode prog_4_method_3_code 154 = .ok (.iinc 2 1, 3) := by decide +kernel
theorem d_Hub_copyFrom_157 : decode prog_4_method_3_code 157 = .ok (.goto (-37), 3) := by decide +kernel
theorem d_Hub_copyFrom_160 : decode prog_4_method_3_code 160 = .ok (.return_, 1) := by decide +kernel
theorem fs_2_46 : FS "SensorHub$Hub" 46 2 0 := ⟨"SensorHub$Hub", T_2, 11, rfl, by decide, rfl, gw_I 286 (by decide +kernel) rfl⟩
theorem fs_2_50 : FS "SensorHub$Hub" 50 2 1 := ⟨"SensorHub$Hub", T_2, 11, rfl, by decide, rfl, gw_I 288 (by decide +kernel) rfl⟩
theorem fs_2_53 : FS "SensorHub$Hub" 53 2 2 := ⟨"SensorHub$Hub", T_2, 11, rfl, by decide, rfl, gw_I 290 (by decide +kernel) rfl⟩
theorem fs_2_56 : FS "SensorHub$Hub" 56 2 3 := ⟨"SensorHub$Hub", T_2, 11, rfl, by decide, rfl, gw_I 292 (by decide +kernel) rfl⟩
theorem fs_2_59 : FS "SensorHub$Hub" 59 2 4 := ⟨"SensorHub$Hub", T_2, 11, rfl, by decide, rfl, gw_I 294 (by decide +kernel) rfl⟩
theorem cp_2_74 : CPY "SensorHub$Hub" 74 := ⟨gw_I 415 (by decide +kernel) rfl, gw_I 417 (by decide +kernel) rfl, gw_I 416 (by decide +kernel) rfl, gw_I 80 (by decide +kernel) rfl⟩
theorem cv_2_80 : CSV "SensorHub$Hub" 80 y_Out_copyFrom prog_5_method_5_code 2 none 1 := ⟨gw_I 418 (by decide +kernel) rfl, gw_I 419 (by decide +kernel) rfl, gw_I 420 (by decide +kernel) rfl, gw_I 72 (by decide +kernel) rfl, gw_I 421 (by decide +kernel) rfl, ⟨by decide +kernel, by decide +kernel⟩, by decide +kernel⟩
theorem cv_2_84 : CSV "SensorHub$Hub" 84 y_Sto_copyFrom prog_7_method_5_code 2 none 1 := ⟨gw_I 423 (by decide +kernel) rfl, gw_I 424 (by decide +kernel) rfl, gw_I 425 (by decide +kernel) rfl, gw_I 73 (by decide +kernel) rfl, gw_I 426 (by decide +kernel) rfl, ⟨by decide +kernel, by decide +kernel⟩, by decide +kernel⟩
theorem cv_2_87 : CSV "SensorHub$Hub" 87 y_Hub_sensorRoom prog_4_method_4_code 2 (some (.object "SensorHub$Sensor")) 1 := ⟨gw_I 428 (by decide +kernel) rfl, gw_I 430 (by decide +kernel) rfl, gw_I 1 (by decide +kernel) rfl, gw_I 71 (by decide +kernel) rfl, gw_I 431 (by decide +kernel) rfl, ⟨by decide +kernel, by decide +kernel⟩, by decide +kernel⟩
theorem cv_2_91 : CSV "SensorHub$Hub" 91 y_Sen_copyFrom prog_6_method_12_code 2 none 1 := ⟨gw_I 432 (by decide +kernel) rfl, gw_I 433 (by decide +kernel) rfl, gw_I 434 (by decide +kernel) rfl, gw_I 74 (by decide +kernel) rfl, gw_I 435 (by decide +kernel) rfl, ⟨by decide +kernel, by decide +kernel⟩, by decide +kernel⟩
theorem cv_2_94 : CSV "SensorHub$Hub" 94 y_Cli_copyFrom prog_2_method_6_code 2 none 1 := ⟨gw_I 437 (by decide +kernel) rfl, gw_I 438 (by decide +kernel) rfl, gw_I 439 (by decide +kernel) rfl, gw_I 75 (by decide +kernel) rfl, gw_I 440 (by decide +kernel) rfl, ⟨by decide +kernel, by decide +kernel⟩, by decide +kernel⟩
def L_Hub_copyFrom_78 (r0 : Nat) (r1 : Nat) (k : Mem → Option (Unit × Mem)) : Nat → Int32 → Mem → Option (Unit × Mem)
  | 0, _, _ => none
  | n + 1, x2, σ =>
    if (8 : Int32) ≤ x2 then
      k σ
    else
      bd (f_Hub_sensorRoom r0 x2 σ) fun r11 σ12 =>
      oe r11 (
        bd (f_Hub_sensorRoom r1 x2 σ12) fun r14 σ15 =>
        oe r14 (
          L_Hub_copyFrom_78 r0 r1 k n (x2 + 1) σ15
        ) (fun o16 =>
          L_Hub_copyFrom_78 r0 r1 k n (x2 + 1) σ15
        )
      ) (fun o13 =>
        bd (f_Hub_sensorRoom r1 x2 σ12) fun r17 σ18 =>
        oe r17 (
          L_Hub_copyFrom_78 r0 r1 k n (x2 + 1) σ18
        ) (fun o19 =>
          bd (f_Sen_copyFrom o13 o19 σ18) fun _ σ21 =>
          L_Hub_copyFrom_78 r0 r1 k n (x2 + 1) σ21
        )
      )
def L_Hub_copyFrom_120 (r0 : Nat) (r1 : Nat) (k : Mem → Option (Unit × Mem)) : Nat → Int32 → Mem → Option (Unit × Mem)
  | 0, _, _ => none
  | n + 1, x2, σ =>
    if (8 : Int32) ≤ x2 then
      k σ
    else
      bd (f_Hub_clientRoom r0 x2 σ) fun r23 σ24 =>
      oe r23 (
        bd (f_Hub_clientRoom r1 x2 σ24) fun r26 σ27 =>
        oe r26 (
          L_Hub_copyFrom_120 r0 r1 k n (x2 + 1) σ27
        ) (fun o28 =>
          L_Hub_copyFrom_120 r0 r1 k n (x2 + 1) σ27
        )
      ) (fun o25 =>
        bd (f_Hub_clientRoom r1 x2 σ24) fun r29 σ30 =>
        oe r29 (
          L_Hub_copyFrom_120 r0 r1 k n (x2 + 1) σ30
        ) (fun o31 =>
          bd (f_Cli_copyFrom o25 o31 σ30) fun _ σ33 =>
          L_Hub_copyFrom_120 r0 r1 k n (x2 + 1) σ33
        )
      )
def f_Hub_copyFrom (q : Nat) (q1 : Nat) (σ : Mem) : Option (Unit × Mem) :=
  lt (wr σ q 0 (σ q1 0)) fun σ1 =>
  lt (wr σ1 q 1 (σ1 q1 1)) fun σ2 =>
  lt (wr σ2 q 2 (σ2 q1 2)) fun σ3 =>
  lt (wr σ3 q 3 (σ3 q1 3)) fun σ4 =>
  lt (wr σ4 q 4 (σ4 q1 4)) fun σ5 =>
  lt (cpy σ5 (q1 + 1) (q + 1) 4) fun σ6 =>
  bd (f_Out_copyFrom (q + 4) (q1 + 4) σ6) fun _ σ8 =>
  bd (f_Sto_copyFrom (q + 8) (q1 + 8) σ8) fun _ σ10 =>
  L_Hub_copyFrom_78 q q1 (fun σ22 =>
    L_Hub_copyFrom_120 q q1 (fun σ34 =>
      some ((), σ34)) FU (0 : Int32) σ22) FU (0 : Int32) σ10
set_option maxRecDepth 100000 in
set_option maxHeartbeats 4000000 in
theorem l_L_Hub_copyFrom_78 {X : CX} {p : Program} {l : Launch} {e : Env} {s : State} {m : MethodId} {args : Array Value} {below : List Frame} {meth : Method} {c : Code} (F : FR p s m args c prog_4_method_3_code 5 "SensorHub$Hub" X) (hlk : meth.locks = false) (hr : meth.sig.returnType = none) (r0 : Nat) (r1 : Nat) (hr0 : HubOK X r0) (hr1 : HubOK X r1) (k : Mem → Option (Unit × Mem)) (hk : ∀  (σ : Mem), G X p l e (rmD 2) s m args below meth c 5 0 0 (QI X below args s vU) 118 [(0, .ref (xa X r0)), (1, .ref (xa X r1))] [] σ (k σ)) : ∀ (n : Nat) (x2 : Int32) (σ : Mem), G X p l e (rmD 2) s m args below meth c 5 0 0 (QI X below args s vU) 78 [(0, .ref (xa X r0)), (1, .ref (xa X r1)), (2, .int x2)] [] σ (L_Hub_copyFrom_78 r0 r1 k n x2 σ) := by
  intro n
  induction n with
  | zero => intros; exact g_no
  | succ n ih =>
    intro x2 σ
    unfold L_Hub_copyFrom_78
    refine g_iload_n F d_Hub_copyFrom_78 2 rfl ?_
    refine g_bipush F (v := 8) d_Hub_copyFrom_79 (by decide) ?_
    refine g_icmp_ge F (tgt := 118) d_Hub_copyFrom_81 (by decide) (fun h3 => ?_) (fun h4 => ?_)
    · exact g_sub [0, 1] rfl (hk  _)
    refine g_aload_n F d_Hub_copyFrom_84 0 rfl ?_
    refine g_iload_n F d_Hub_copyFrom_85 2 rfl ?_
    refine g_callV F (dp := 1) (ci := 2) (As := [.int x2]) (c_Hub_sensorRoom l _ _ hr0 _) cv_2_87 hr0.1 rfl rfl rfl (Nat.le_of_ble_eq_true rfl) ⟨Nat.le_of_ble_eq_true rfl, Nat.le_of_ble_eq_true rfl⟩ ⟨Nat.zero_le _, Nat.zero_le _⟩ d_Hub_copyFrom_86 (fun r11 σ12 h5 => ?_)
    refine g_oe (fun h6 => ?_) (fun o13 h7 => ?_)
    · refine g_astore_nN F (ls' := [(3, .null), (0, .ref (xa X r0)), (1, .ref (xa X r1)), (2, .int x2)]) d_Hub_copyFrom_89 (by decide) rfl ?_
      refine g_aload_n F d_Hub_copyFrom_90 2 rfl ?_
      refine g_iload_n F d_Hub_copyFrom_91 3 rfl ?_
      refine g_callV F (dp := 1) (ci := 2) (As := [.int x2]) (c_Hub_sensorRoom l _ _ hr1 _) cv_2_87 hr1.1 rfl rfl rfl (Nat.le_of_ble_eq_true rfl) ⟨Nat.le_of_ble_eq_true rfl, Nat.le_of_ble_eq_true rfl⟩ ⟨Nat.zero_le _, Nat.zero_le _⟩ d_Hub_copyFrom_92 (fun r14 σ15 h9 => ?_)
      refine g_oe (fun h10 => ?_) (fun o16 h11 => ?_)
      · refine g_astoreN F (ls' := [(4, .null), (3, .null), (0, .ref (xa X r0)), (1, .ref (xa X r1)), (2, .int x2)]) d_Hub_copyFrom_95 (by decide) rfl ?_
        refine g_aload_nN F d_Hub_copyFrom_97 1 rfl ?_
        refine g_ifnullN F (tgt := 112) d_Hub_copyFrom_98 (by decide) ?_
        refine g_iinc F (v := 1) (ls' := [(2, .int (x2 + 1)), (4, .null), (3, .null), (0, .ref (xa X r0)), (1, .ref (xa X r1))]) d_Hub_copyFrom_112 4 rfl (by decide) (by decide) rfl ?_
        refine g_goto F (tgt := 78) d_Hub_copyFrom_115 (by decide) ?_
        exact g_sub [3, 4, 0] rfl (ih _ _)
      have h12 : SensorOK X o16 := ok_Hub_sensorRoom hr1 (h11 ▸ h9)
      refine g_astore F (ls' := [(4, .ref (xa X o16)), (3, .null), (0, .ref (xa X r0)), (1, .ref (xa X r1)), (2, .int x2)]) d_Hub_copyFrom_95 (by decide) rfl ?_
      refine g_aload_nN F d_Hub_copyFrom_97 1 rfl ?_
      refine g_ifnullN F (tgt := 112) d_Hub_copyFrom_98 (by decide) ?_
      refine g_iinc F (v := 1) (ls' := [(2, .int (x2 + 1)), (4, .ref (xa X o16)), (3, .null), (0, .ref (xa X r0)), (1, .ref (xa X r1))]) d_Hub_copyFrom_112 4 rfl (by decide) (by decide) rfl ?_
      refine g_goto F (tgt := 78) d_Hub_copyFrom_115 (by decide) ?_
      exact g_sub [3, 4, 0] rfl (ih _ _)
    have h8 : SensorOK X o13 := ok_Hub_sensorRoom hr0 (h7 ▸ h5)
    refine g_astore_n F (ls' := [(3, .ref (xa X o13)), (0, .ref (xa X r0)), (1, .ref (xa X r1)), (2, .int x2)]) d_Hub_copyFrom_89 (by decide) rfl ?_
    refine g_aload_n F d_Hub_copyFrom_90 2 rfl ?_
    refine g_iload_n F d_Hub_copyFrom_91 3 rfl ?_
    refine g_callV F (dp := 1) (ci := 2) (As := [.int x2]) (c_Hub_sensorRoom l _ _ hr1 _) cv_2_87 hr1.1 rfl rfl rfl (Nat.le_of_ble_eq_true rfl) ⟨Nat.le_of_ble_eq_true rfl, Nat.le_of_ble_eq_true rfl⟩ ⟨Nat.zero_le _, Nat.zero_le _⟩ d_Hub_copyFrom_92 (fun r17 σ18 h13 => ?_)
    refine g_oe (fun h14 => ?_) (fun o19 h15 => ?_)
    · refine g_astoreN F (ls' := [(4, .null), (3, .ref (xa X o13)), (0, .ref (xa X r0)), (1, .ref (xa X r1)), (2, .int x2)]) d_Hub_copyFrom_95 (by decide) rfl ?_
      refine g_aload_n F d_Hub_copyFrom_97 1 rfl ?_
      refine g_ifnull F d_Hub_copyFrom_98 ?_
      refine g_aloadN F d_Hub_copyFrom_101 0 rfl ?_
      refine g_ifnullN F (tgt := 112) d_Hub_copyFrom_103 (by decide) ?_
      refine g_iinc F (v := 1) (ls' := [(2, .int (x2 + 1)), (4, .null), (3, .ref (xa X o13)), (0, .ref (xa X r0)), (1, .ref (xa X r1))]) d_Hub_copyFrom_112 4 rfl (by decide) (by decide) rfl ?_
      refine g_goto F (tgt := 78) d_Hub_copyFrom_115 (by decide) ?_
      exact g_sub [3, 4, 0] rfl (ih _ _)
    have h16 : SensorOK X o19 := ok_Hub_sensorRoom hr1 (h15 ▸ h13)
    refine g_astore F (ls' := [(4, .ref (xa X o19)), (3, .ref (xa X o13)), (0, .ref (xa X r0)), (1, .ref (xa X r1)), (2, .int x2)]) d_Hub_copyFrom_95 (by decide) rfl ?_
    refine g_aload_n F d_Hub_copyFrom_97 1 rfl ?_
    refine g_ifnull F d_Hub_copyFrom_98 ?_
    refine g_aload F d_Hub_copyFrom_101 0 rfl ?_
    refine g_ifnull F d_Hub_copyFrom_103 ?_
    refine g_aload_n F d_Hub_copyFrom_106 1 rfl ?_
    refine g_aload F d_Hub_copyFrom_107 0 rfl ?_
    refine g_callV F (dp := 1) (ci := 4) (As := [.ref (xa X o19)]) (c_Sen_copyFrom l _ _ h8 h16 _) cv_2_91 h8.1 rfl rfl rfl (Nat.le_of_ble_eq_true rfl) ⟨Nat.le_of_ble_eq_true rfl, Nat.le_of_ble_eq_true rfl⟩ ⟨Nat.zero_le _, Nat.zero_le _⟩ d_Hub_copyFrom_109 (fun _ σ21 h17 => ?_)
    refine g_iinc F (v := 1) (ls' := [(2, .int (x2 + 1)), (4, .ref (xa X o19)), (3, .ref (xa X o13)), (0, .ref (xa X r0)), (1, .ref (xa X r1))]) d_Hub_copyFrom_112 4 rfl (by decide) (by decide) rfl ?_
    refine g_goto F (tgt := 78) d_Hub_copyFrom_115 (by decide) ?_
    exact g_sub [3, 4, 0] rfl (ih _ _)
set_option maxRecDepth 100000 in
set_option maxHeartbeats 4000000 in
theorem l_L_Hub_copyFrom_120 {X : CX} {p : Program} {l : Launch} {e : Env} {s : State} {m : MethodId} {args : Array Value} {below : List Frame} {meth : Method} {c : Code} (F : FR p s m args c prog_4_method_3_code 5 "SensorHub$Hub" X) (hlk : meth.locks = false) (hr : meth.sig.returnType = none) (r0 : Nat) (r1 : Nat) (hr0 : HubOK X r0) (hr1 : HubOK X r1) (k : Mem → Option (Unit × Mem)) (hk : ∀  (σ : Mem), G X p l e (rmD 2) s m args below meth c 5 0 0 (QI X below args s vU) 160 [] [] σ (k σ)) : ∀ (n : Nat) (x2 : Int32) (σ : Mem), G X p l e (rmD 2) s m args below meth c 5 0 0 (QI X below args s vU) 120 [(0, .ref (xa X r0)), (1, .ref (xa X r1)), (2, .int x2)] [] σ (L_Hub_copyFrom_120 r0 r1 k n x2 σ) := by
  intro n
  induction n with
  | zero => intros; exact g_no
  | succ n ih =>
    intro x2 σ
    unfold L_Hub_copyFrom_120
    refine g_iload_n F d_Hub_copyFrom_120 2 rfl ?_
    refine g_bipush F (v := 8) d_Hub_copyFrom_121 (by decide) ?_
    refine g_icmp_ge F (tgt := 160) d_Hub_copyFrom_123 (by decide) (fun h18 => ?_) (fun h19 => ?_)
    · exact g_sub [] rfl (hk  _)
    refine g_aload_n F d_Hub_copyFrom_126 0 rfl ?_
    refine g_iload_n F d_Hub_copyFrom_127 2 rfl ?_
    refine g_callV F (dp := 1) (ci := 2) (As := [.int x2]) (c_Hub_clientRoom l _ _ hr0 _) cv_2_66 hr0.1 rfl rfl rfl (Nat.le_of_ble_eq_true rfl) ⟨Nat.le_of_ble_eq_true rfl, Nat.le_of_ble_eq_true rfl⟩ ⟨Nat.zero_le _, Nat.zero_le _⟩ d_Hub_copyFrom_128 (fun r23 σ24 h20 => ?_)
    refine g_oe (fun h21 => ?_) (fun o25 h22 => ?_)
    · refine g_astore_nN F (ls' := [(3, .null), (0, .ref (xa X r0)), (1, .ref (xa X r1)), (2, .int x2)]) d_Hub_copyFrom_131 (by decide) rfl ?_
      refine g_aload_n F d_Hub_copyFrom_132 2 rfl ?_
      refine g_iload_n F d_Hub_copyFrom_133 3 rfl ?_
      refine g_callV F (dp := 1) (ci := 2) (As := [.int x2]) (c_Hub_clientRoom l _ _ hr1 _) cv_2_66 hr1.1 rfl rfl rfl (Nat.le_of_ble_eq_true rfl) ⟨Nat.le_of_ble_eq_true rfl, Nat.le_of_ble_eq_true rfl⟩ ⟨Nat.zero_le _, Nat.zero_le _⟩ d_Hub_copyFrom_134 (fun r26 σ27 h24 => ?_)
      refine g_oe (fun h25 => ?_) (fun o28 h26 => ?_)
      · refine g_astoreN F (ls' := [(4, .null), (3, .null), (0, .ref (xa X r0)), (1, .ref (xa X r1)), (2, .int x2)]) d_Hub_copyFrom_137 (by decide) rfl ?_
        refine g_aload_nN F d_Hub_copyFrom_139 1 rfl ?_
        refine g_ifnullN F (tgt := 154) d_Hub_copyFrom_140 (by decide) ?_
        refine g_iinc F (v := 1) (ls' := [(2, .int (x2 + 1)), (4, .null), (3, .null), (0, .ref (xa X r0)), (1, .ref (xa X r1))]) d_Hub_copyFrom_154 4 rfl (by decide) (by decide) rfl ?_
        refine g_goto F (tgt := 120) d_Hub_copyFrom_157 (by decide) ?_
        exact g_sub [3, 4, 0] rfl (ih _ _)
      have h27 : ClientOK X o28 := ok_Hub_clientRoom hr1 (h26 ▸ h24)
      refine g_astore F (ls' := [(4, .ref (xa X o28)), (3, .null), (0, .ref (xa X r0)), (1, .ref (xa X r1)), (2, .int x2)]) d_Hub_copyFrom_137 (by decide) rfl ?_
      refine g_aload_nN F d_Hub_copyFrom_139 1 rfl ?_
      refine g_ifnullN F (tgt := 154) d_Hub_copyFrom_140 (by decide) ?_
      refine g_iinc F (v := 1) (ls' := [(2, .int (x2 + 1)), (4, .ref (xa X o28)), (3, .null), (0, .ref (xa X r0)), (1, .ref (xa X r1))]) d_Hub_copyFrom_154 4 rfl (by decide) (by decide) rfl ?_
      refine g_goto F (tgt := 120) d_Hub_copyFrom_157 (by decide) ?_
      exact g_sub [3, 4, 0] rfl (ih _ _)
    have h23 : ClientOK X o25 := ok_Hub_clientRoom hr0 (h22 ▸ h20)
    refine g_astore_n F (ls' := [(3, .ref (xa X o25)), (0, .ref (xa X r0)), (1, .ref (xa X r1)), (2, .int x2)]) d_Hub_copyFrom_131 (by decide) rfl ?_
    refine g_aload_n F d_Hub_copyFrom_132 2 rfl ?_
    refine g_iload_n F d_Hub_copyFrom_133 3 rfl ?_
    refine g_callV F (dp := 1) (ci := 2) (As := [.int x2]) (c_Hub_clientRoom l _ _ hr1 _) cv_2_66 hr1.1 rfl rfl rfl (Nat.le_of_ble_eq_true rfl) ⟨Nat.le_of_ble_eq_true rfl, Nat.le_of_ble_eq_true rfl⟩ ⟨Nat.zero_le _, Nat.zero_le _⟩ d_Hub_copyFrom_134 (fun r29 σ30 h28 => ?_)
    refine g_oe (fun h29 => ?_) (fun o31 h30 => ?_)
    · refine g_astoreN F (ls' := [(4, .null), (3, .ref (xa X o25)), (0, .ref (xa X r0)), (1, .ref (xa X r1)), (2, .int x2)]) d_Hub_copyFrom_137 (by decide) rfl ?_
      refine g_aload_n F d_Hub_copyFrom_139 1 rfl ?_
      refine g_ifnull F d_Hub_copyFrom_140 ?_
      refine g_aloadN F d_Hub_copyFrom_143 0 rfl ?_
      refine g_ifnullN F (tgt := 154) d_Hub_copyFrom_145 (by decide) ?_
      refine g_iinc F (v := 1) (ls' := [(2, .int (x2 + 1)), (4, .null), (3, .ref (xa X o25)), (0, .ref (xa X r0)), (1, .ref (xa X r1))]) d_Hub_copyFrom_154 4 rfl (by decide) (by decide) rfl ?_
      refine g_goto F (tgt := 120) d_Hub_copyFrom_157 (by decide) ?_
      exact g_sub [3, 4, 0] rfl (ih _ _)
    have h31 : ClientOK X o31 := ok_Hub_clientRoom hr1 (h30 ▸ h28)
    refine g_astore F (ls' := [(4, .ref (xa X o31)), (3, .ref (xa X o25)), (0, .ref (xa X r0)), (1, .ref (xa X r1)), (2, .int x2)]) d_Hub_copyFrom_137 (by decide) rfl ?_
    refine g_aload_n F d_Hub_copyFrom_139 1 rfl ?_
    refine g_ifnull F d_Hub_copyFrom_140 ?_
    refine g_aload F d_Hub_copyFrom_143 0 rfl ?_
    refine g_ifnull F d_Hub_copyFrom_145 ?_
    refine g_aload_n F d_Hub_copyFrom_148 1 rfl ?_
    refine g_aload F d_Hub_copyFrom_149 0 rfl ?_
    refine g_callV F (dp := 1) (ci := 0) (As := [.ref (xa X o31)]) (c_Cli_copyFrom l _ _ h23 h31 _) cv_2_94 h23.1 rfl rfl rfl (Nat.le_of_ble_eq_true rfl) ⟨Nat.le_of_ble_eq_true rfl, Nat.le_of_ble_eq_true rfl⟩ ⟨Nat.zero_le _, Nat.zero_le _⟩ d_Hub_copyFrom_151 (fun _ σ33 h32 => ?_)
    refine g_iinc F (v := 1) (ls' := [(2, .int (x2 + 1)), (4, .ref (xa X o31)), (3, .ref (xa X o25)), (0, .ref (xa X r0)), (1, .ref (xa X r1))]) d_Hub_copyFrom_154 4 rfl (by decide) (by decide) rfl ?_
    refine g_goto F (tgt := 120) d_Hub_copyFrom_157 (by decide) ?_
    exact g_sub [3, 4, 0] rfl (ih _ _)
set_option maxRecDepth 100000 in
set_option maxHeartbeats 4000000 in
theorem c_Hub_copyFrom {X : CX} (l : Launch) (q : Nat) (q1 : Nat) (hq : HubOK X q) (hq1 : HubOK X q1) (σ : Mem) : CT X l y_Hub_copyFrom prog_4_method_3_code 5 none 2 vU [.ref (xa X q), .ref (xa X q1)] σ (f_Hub_copyFrom q q1 σ) := by
  refine CT_of (by decide +kernel) (Nat.le_of_ble_eq_true rfl) ?_
  intro p e s m args below meth c F hlk hr
  have F : FR p s m args c prog_4_method_3_code 5 "SensorHub$Hub" X := F
  show G X p l e (rmD 2) s m args below meth c 5 0 0 (QI X below args s vU) 0 [(0, .ref (xa X q)), (1, .ref (xa X q1))] [] σ _
  unfold f_Hub_copyFrom
  refine g_aload_n F d_Hub_copyFrom_0 0 rfl ?_
  refine g_aload_n F d_Hub_copyFrom_1 1 rfl ?_
  refine g_getI F fs_2_46 hq1.1 rfl d_Hub_copyFrom_2 ?_
  refine g_putI F fw_2_46 hq.1 rfl d_Hub_copyFrom_5 ?_
  refine g_ltM (fun σ1 _ => ?_)
  refine g_aload_n F d_Hub_copyFrom_8 0 rfl ?_
  refine g_aload_n F d_Hub_copyFrom_9 1 rfl ?_
  refine g_getI F fs_2_50 hq1.1 rfl d_Hub_copyFrom_10 ?_
  refine g_putI F fw_2_50 hq.1 rfl d_Hub_copyFrom_13 ?_
  refine g_ltM (fun σ2 _ => ?_)
  refine g_aload_n F d_Hub_copyFrom_16 0 rfl ?_
  refine g_aload_n F d_Hub_copyFrom_17 1 rfl ?_
  refine g_getI F fs_2_53 hq1.1 rfl d_Hub_copyFrom_18 ?_
  refine g_putI F fw_2_53 hq.1 rfl d_Hub_copyFrom_21 ?_
  refine g_ltM (fun σ3 _ => ?_)
  refine g_aload_n F d_Hub_copyFrom_24 0 rfl ?_
  refine g_aload_n F d_Hub_copyFrom_25 1 rfl ?_
  refine g_getI F fs_2_56 hq1.1 rfl d_Hub_copyFrom_26 ?_
  refine g_putI F fw_2_56 hq.1 rfl d_Hub_copyFrom_29 ?_
  refine g_ltM (fun σ4 _ => ?_)
  refine g_aload_n F d_Hub_copyFrom_32 0 rfl ?_
  refine g_aload_n F d_Hub_copyFrom_33 1 rfl ?_
  refine g_getI F fs_2_59 hq1.1 rfl d_Hub_copyFrom_34 ?_
  refine g_putI F fw_2_59 hq.1 rfl d_Hub_copyFrom_37 ?_
  refine g_ltM (fun σ5 _ => ?_)
  refine g_aload_n F d_Hub_copyFrom_40 1 rfl ?_
  refine g_getR F fs_2_9 hq1.1 rfl d_Hub_copyFrom_41 ?_
  refine g_iconst F (v := 0) d_Hub_copyFrom_44 (by decide) ?_
  refine g_aload_n F d_Hub_copyFrom_45 0 rfl ?_
  refine g_getR F fs_2_9 hq.1 rfl d_Hub_copyFrom_46 ?_
  refine g_iconst F (v := 0) d_Hub_copyFrom_49 (by decide) ?_
  refine g_iconst F (v := 4) d_Hub_copyFrom_50 (by decide) ?_
  refine g_copy F (n := 4) cp_2_74 hq1.2.1 hq.2.1 (by decide) ⟨Nat.le_of_ble_eq_true rfl, by decide⟩ d_Hub_copyFrom_51 ?_
  refine g_ltM (fun σ6 _ => ?_)
  refine g_aload_n F d_Hub_copyFrom_54 0 rfl ?_
  refine g_getR F fs_2_30 hq.1 rfl d_Hub_copyFrom_55 ?_
  refine g_aload_n F d_Hub_copyFrom_58 1 rfl ?_
  refine g_getR F fs_2_30 hq1.1 rfl d_Hub_copyFrom_59 ?_
  refine g_callV F (dp := 1) (ci := 3) (As := [.ref (xa X (q1 + 4))]) (c_Out_copyFrom l _ _ hq.2.2.2.2.1 hq1.2.2.2.2.1 _) cv_2_80 hq.2.2.2.2.1.1 rfl rfl rfl (Nat.le_of_ble_eq_true rfl) ⟨Nat.le_of_ble_eq_true rfl, Nat.le_of_ble_eq_true rfl⟩ ⟨Nat.zero_le _, Nat.zero_le _⟩ d_Hub_copyFrom_62 (fun _ σ8 h1 => ?_)
  refine g_aload_n F d_Hub_copyFrom_65 0 rfl ?_
  refine g_getR F fs_2_37 hq.1 rfl d_Hub_copyFrom_66 ?_
  refine g_aload_n F d_Hub_copyFrom_69 1 rfl ?_
  refine g_getR F fs_2_37 hq1.1 rfl d_Hub_copyFrom_70 ?_
  refine g_callV F (dp := 1) (ci := 5) (As := [.ref (xa X (q1 + 8))]) (c_Sto_copyFrom l _ _ hq.2.2.2.2.2.1 hq1.2.2.2.2.2.1 _) cv_2_84 hq.2.2.2.2.2.1.1 rfl rfl rfl (Nat.le_of_ble_eq_true rfl) ⟨Nat.le_of_ble_eq_true rfl, Nat.le_of_ble_eq_true rfl⟩ ⟨Nat.zero_le _, Nat.zero_le _⟩ d_Hub_copyFrom_73 (fun _ σ10 h2 => ?_)
  refine g_iconst F (v := 0) d_Hub_copyFrom_76 (by decide) ?_
  refine g_istore_n F (ls' := [(2, .int (0 : Int32)), (0, .ref (xa X q)), (1, .ref (xa X q1))]) d_Hub_copyFrom_77 (by decide) rfl ?_
  refine g_sub [1, 2, 0] rfl (l_L_Hub_copyFrom_78 F hlk hr _ _ hq hq1 _ (fun σ22 => ?_) FU _ _)
  refine g_iconst F (v := 0) d_Hub_copyFrom_118 (by decide) ?_
  refine g_istore_n F (ls' := [(2, .int (0 : Int32)), (0, .ref (xa X q)), (1, .ref (xa X q1))]) d_Hub_copyFrom_119 (by decide) rfl ?_
  refine g_sub [1, 2, 0] rfl (l_L_Hub_copyFrom_120 F hlk hr _ _ hq hq1 _ (fun σ34 => ?_) FU _ _)
  exact g_vret F hlk hr d_Hub_copyFrom_160
def y_Hub_sensorAt : MethodName := ⟨"SensorHub$Hub", "sensorAt", "(I)LSensorHub$Sensor;"⟩
theorem d_Hub_sensorAt_0 : decode prog_4_method_6_code 0 = .ok (.iload_n 1, 1) := by decide +kernel
theorem d_Hub_sensorAt_1 : decode prog_4_method_6_code 1 = .ok (.ifCond .lt 26, 3) := by decide +kernel
theorem d_Hub_sensorAt_4 : decode prog_4_method_6_code 4 = .ok (.iload_n 1, 1) := by decide +kernel
theorem d_Hub_sensorAt_5 : decode prog_4_method_6_code 5 = .ok (.aload_n 0, 1) := by decide +kernel
theorem d_Hub_sensorAt_6 : decode prog_4_method_6_code 6 = .ok (.getfield 59, 3) := by decide +kernel
theorem d_Hub_sensorAt_9 : decode prog_4_method_6_code 9 = .ok (.if_icmp .ge 18, 3) := by decide +kernel
theorem d_Hub_sensorAt_12 : decode prog_4_method_6_code 12 = .ok (.iload_n 1, 1) := by decide +kernel
theorem d_Hub_sensorAt_13 : decode prog_4_method_6_code 13 = .ok (.bipush 8, 2) := by decide +kernel
theorem d_Hub_sensorAt_15 : decode prog_4_method_6_code 15 = .ok (.if_icmp .ge 12, 3) := by decide +kernel
theorem d_Hub_sensorAt_18 : decode prog_4_method_6_code 18 = .ok (.aload_n 0, 1) := by decide +kernel
theorem d_Hub_sensorAt_19 : decode prog_4_method_6_code 19 = .ok (.getfield 17, 3) := by decide +kernel
theorem d_Hub_sensorAt_22 : decode prog_4_method_6_code 22 = .ok (.iload_n 1, 1) := by decide +kernel
theorem d_Hub_sensorAt_23 : decode prog_4_method_6_code 23 = .ok (.aaload, 1) := by decide +kernel
theorem d_Hub_sensorAt_24 : decode prog_4_method_6_code 24 = .ok (.goto 4, 3) := by decide +kernel
theorem d_Hub_sensorAt_27 : decode prog_4_method_6_code 27 = .ok (.aconst_null, 1) := by decide +kernel
theorem d_Hub_sensorAt_28 : decode prog_4_method_6_code 28 = .ok (.areturn, 1) := by decide +kernel
def f_Hub_sensorAt (q : Nat) (p1 : Int32) (σ : Mem) : Option ((Option Nat) × Mem) :=
  if p1 < 0 then
    some (none, σ)
  else
    if (σ q 4) ≤ p1 then
      some (none, σ)
    else
      if (8 : Int32) ≤ p1 then
        some (none, σ)
      else
        if ib p1 8 then
          some (some (q + 2 + (8 + 2 * p1.toNatClampNeg)), σ)
        else none
set_option maxRecDepth 100000 in
set_option maxHeartbeats 4000000 in
theorem c_Hub_sensorAt {X : CX} (l : Launch) (q : Nat) (p1 : Int32) (hq : HubOK X q) (σ : Mem) : CT X l y_Hub_sensorAt prog_4_method_6_code 2 (some (.object "SensorHub$Sensor")) 0 (vQ X) [.ref (xa X q), .int p1] σ (f_Hub_sensorAt q p1 σ) := by
  refine CT_of (by decide +kernel) (Nat.le_of_ble_eq_true rfl) ?_
  intro p e s m args below meth c F hlk hr
  have F : FR p s m args c prog_4_method_6_code 2 "SensorHub$Hub" X := F
  show G X p l e (rmD 0) s m args below meth c 2 0 0 (QI X below args s (vQ X)) 0 [(0, .ref (xa X q)), (1, .int p1)] [] σ _
  unfold f_Hub_sensorAt
  refine g_iload_n F d_Hub_sensorAt_0 1 rfl ?_
  refine g_if_lt F (tgt := 27) d_Hub_sensorAt_1 (by decide) (fun h1 => ?_) (fun h2 => ?_)
  · refine g_null F d_Hub_sensorAt_27 ?_
    exact g_aretN F hlk hr d_Hub_sensorAt_28
  refine g_iload_n F d_Hub_sensorAt_4 1 rfl ?_
  refine g_aload_n F d_Hub_sensorAt_5 0 rfl ?_
  refine g_getI F fs_2_59 hq.1 rfl d_Hub_sensorAt_6 ?_
  refine g_icmp_ge F (tgt := 27) d_Hub_sensorAt_9 (by decide) (fun h3 => ?_) (fun h4 => ?_)
  · refine g_null F d_Hub_sensorAt_27 ?_
    exact g_aretN F hlk hr d_Hub_sensorAt_28
  refine g_iload_n F d_Hub_sensorAt_12 1 rfl ?_
  refine g_bipush F (v := 8) d_Hub_sensorAt_13 (by decide) ?_
  refine g_icmp_ge F (tgt := 27) d_Hub_sensorAt_15 (by decide) (fun h5 => ?_) (fun h6 => ?_)
  · refine g_null F d_Hub_sensorAt_27 ?_
    exact g_aretN F hlk hr d_Hub_sensorAt_28
  refine g_aload_n F d_Hub_sensorAt_18 0 rfl ?_
  refine g_getR F fs_2_17 hq.1 rfl d_Hub_sensorAt_19 ?_
  refine g_iload_n F d_Hub_sensorAt_22 1 rfl ?_
  refine g_aald F 21 2 8 8 2 "SensorHub$Sensor" hq.2.2.1 (Or.inl ⟨rfl, rfl, rfl, rfl, rfl⟩) rfl d_Hub_sensorAt_23 (fun h7 => ?_)
  refine g_goto F (tgt := 28) d_Hub_sensorAt_24 (by decide) ?_
  exact g_aret F hlk hr d_Hub_sensorAt_28
theorem at_Hub_sensorAt {q : Nat} {x : Int32} {σ σ' : Mem} {v : Nat} (h : f_Hub_sensorAt q x σ = some (some v, σ')) : ∃ j, j < 8 ∧ v = q + 2 + (8 + 2 * j) := by
  unfold f_Hub_sensorAt at h
  try simp only [bd, lt, f_X_isWithin] at h
  repeat' split at h
  all_goals first
    | (cases h; done)
    | (rename_i hib; simp only [Option.some.injEq, Prod.mk.injEq] at h; obtain ⟨rfl, -⟩ := h; exact ⟨_, ib_lt (by first | assumption | (rename_i q1; exact q1) | exact hib), rfl⟩)
    | (simp only [Option.some.injEq, Prod.mk.injEq] at h; obtain ⟨rfl, -⟩ := h; exact ⟨_, ib_lt (by assumption), rfl⟩)
    | (simp at h; done)
theorem ok_Hub_sensorAt {X : CX} {q : Nat} {x : Int32} {σ σ' : Mem} {v : Nat} (hq : HubOK X q) (h : f_Hub_sensorAt q x σ = some (some v, σ')) : SensorOK X v := by
  obtain ⟨j, hj, rfl⟩ := at_Hub_sensorAt h
  exact hq.2.2.2.2.2.2.1 j hj
def y_Hub_clientAt : MethodName := ⟨"SensorHub$Hub", "clientAt", "(I)LSensorHub$Client;"⟩
theorem d_Hub_clientAt_0 : decode prog_4_method_7_code 0 = .ok (.iload_n 1, 1) := by decide +kernel
theorem d_Hub_clientAt_1 : decode prog_4_method_7_code 1 = .ok (.ifCond .lt 18, 3) := by decide +kernel
theorem d_Hub_clientAt_4 : decode prog_4_method_7_code 4 = .ok (.iload_n 1, 1) := by decide +kernel
theorem d_Hub_clientAt_5 : decode prog_4_method_7_code 5 = .ok (.bipush 8, 2) := by decide +kernel
theorem d_Hub_clientAt_7 : decode prog_4_method_7_code 7 = .ok (.if_icmp .ge 12, 3) := by decide +kernel
theorem d_Hub_clientAt_10 : decode prog_4_method_7_code 10 = .ok (.aload_n 0, 1) := by decide +kernel
theorem d_Hub_clientAt_11 : decode prog_4_method_7_code 11 = .ok (.getfield 23, 3) := by decide +kernel
theorem d_Hub_clientAt_14 : decode prog_4_method_7_code 14 = .ok (.iload_n 1, 1) := by decide +kernel
theorem d_Hub_clientAt_15 : decode prog_4_method_7_code 15 = .ok (.aaload, 1) := by decide +kernel
theorem d_Hub_clientAt_16 : decode prog_4_method_7_code 16 = .ok (.goto 4, 3) := by decide +kernel
theorem d_Hub_clientAt_19 : decode prog_4_method_7_code 19 = .ok (.aconst_null, 1) := by decide +kernel
theorem d_Hub_clientAt_20 : decode prog_4_method_7_code 20 = .ok (.astore_n 2, 1) := by decide +kernel
theorem d_Hub_clientAt_21 : decode prog_4_method_7_code 21 = .ok (.aload_n 2, 1) := by decide +kernel
theorem d_Hub_clientAt_22 : decode prog_4_method_7_code 22 = .ok (.ifnull 14, 3) := by decide +kernel
theorem d_Hub_clientAt_25 : decode prog_4_method_7_code 25 = .ok (.aload_n 2, 1) := by decide +kernel
theorem d_Hub_clientAt_26 : decode prog_4_method_7_code 26 = .ok (.getfield 70, 3) := by decide +kernel
theorem d_Hub_clientAt_29 : decode prog_4_method_7_code 29 = .ok (.ifCond .eq 7, 3) := by decide +kernel
theorem d_Hub_clientAt_32 : decode prog_4_method_7_code 32 = .ok (.aload_n 2, 1) := by decide +kernel
theorem d_Hub_clientAt_33 : decode prog_4_method_7_code 33 = .ok (.goto 4, 3) := by decide +kernel
theorem d_Hub_clientAt_36 : decode prog_4_method_7_code 36 = .ok (.aconst_null, 1) := by decide +kernel
theorem d_Hub_clientAt_37 : decode prog_4_method_7_code 37 = .ok (.areturn, 1) := by decide +kernel
theorem fs_2_70 : FS "SensorHub$Hub" 70 0 0 := ⟨"SensorHub$Client", T_0, 11, rfl, by decide, rfl, gw_I 227 (by decide +kernel) rfl⟩
def f_Hub_clientAt (q : Nat) (p1 : Int32) (σ : Mem) : Option ((Option Nat) × Mem) :=
  if p1 < 0 then
    some (none, σ)
  else
    if (8 : Int32) ≤ p1 then
      some (none, σ)
    else
      if ib p1 8 then
        if (σ (q + 3 + (23 + 2 * p1.toNatClampNeg)) 0) = 0 then some (none, σ) else some (some (q + 3 + (23 + 2 * p1.toNatClampNeg)), σ)
      else none
set_option maxRecDepth 100000 in
set_option maxHeartbeats 4000000 in
theorem c_Hub_clientAt {X : CX} (l : Launch) (q : Nat) (p1 : Int32) (hq : HubOK X q) (σ : Mem) : CT X l y_Hub_clientAt prog_4_method_7_code 3 (some (.object "SensorHub$Client")) 0 (vQ X) [.ref (xa X q), .int p1] σ (f_Hub_clientAt q p1 σ) := by
  refine CT_of (by decide +kernel) (Nat.le_of_ble_eq_true rfl) ?_
  intro p e s m args below meth c F hlk hr
  have F : FR p s m args c prog_4_method_7_code 3 "SensorHub$Hub" X := F
  show G X p l e (rmD 0) s m args below meth c 3 0 0 (QI X below args s (vQ X)) 0 [(0, .ref (xa X q)), (1, .int p1)] [] σ _
  unfold f_Hub_clientAt
  refine g_iload_n F d_Hub_clientAt_0 1 rfl ?_
  refine g_if_lt F (tgt := 19) d_Hub_clientAt_1 (by decide) (fun h1 => ?_) (fun h2 => ?_)
  · refine g_null F d_Hub_clientAt_19 ?_
    refine g_astore_nN F (ls' := [(2, .null), (0, .ref (xa X q)), (1, .int p1)]) d_Hub_clientAt_20 (by decide) rfl ?_
    refine g_aload_nN F d_Hub_clientAt_21 0 rfl ?_
    refine g_ifnullN F (tgt := 36) d_Hub_clientAt_22 (by decide) ?_
    refine g_null F d_Hub_clientAt_36 ?_
    exact g_aretN F hlk hr d_Hub_clientAt_37
  refine g_iload_n F d_Hub_clientAt_4 1 rfl ?_
  refine g_bipush F (v := 8) d_Hub_clientAt_5 (by decide) ?_
  refine g_icmp_ge F (tgt := 19) d_Hub_clientAt_7 (by decide) (fun h3 => ?_) (fun h4 => ?_)
  · refine g_null F d_Hub_clientAt_19 ?_
    refine g_astore_nN F (ls' := [(2, .null), (0, .ref (xa X q)), (1, .int p1)]) d_Hub_clientAt_20 (by decide) rfl ?_
    refine g_aload_nN F d_Hub_clientAt_21 0 rfl ?_
    refine g_ifnullN F (tgt := 36) d_Hub_clientAt_22 (by decide) ?_
    refine g_null F d_Hub_clientAt_36 ?_
    exact g_aretN F hlk hr d_Hub_clientAt_37
  refine g_aload_n F d_Hub_clientAt_10 0 rfl ?_
  refine g_getR F fs_2_23 hq.1 rfl d_Hub_clientAt_11 ?_
  refine g_iload_n F d_Hub_clientAt_14 1 rfl ?_
  refine g_aald F 22 3 8 23 2 "SensorHub$Client" hq.2.2.2.1 (Or.inr (Or.inl ⟨rfl, rfl, rfl, rfl, rfl⟩)) rfl d_Hub_clientAt_15 (fun h5 => ?_)
  refine g_goto F (tgt := 20) d_Hub_clientAt_16 (by decide) ?_
  refine g_astore_n F (ls' := [(2, .ref (xa X (q + 3 + (23 + 2 * p1.toNatClampNeg)))), (0, .ref (xa X q)), (1, .int p1)]) d_Hub_clientAt_20 (by decide) rfl ?_
  refine g_aload_n F d_Hub_clientAt_21 0 rfl ?_
  refine g_ifnull F d_Hub_clientAt_22 ?_
  refine g_aload_n F d_Hub_clientAt_25 0 rfl ?_
  refine g_getI F fs_2_70 (hq.2.2.2.2.2.2.2 _ h5).1 rfl d_Hub_clientAt_26 ?_
  refine g_if_eq F (tgt := 36) d_Hub_clientAt_29 (by decide) (fun h6 => ?_) (fun h7 => ?_)
  · refine g_null F d_Hub_clientAt_36 ?_
    exact g_aretN F hlk hr d_Hub_clientAt_37
  refine g_aload_n F d_Hub_clientAt_32 0 rfl ?_
  refine g_goto F (tgt := 37) d_Hub_clientAt_33 (by decide) ?_
  exact g_aret F hlk hr d_Hub_clientAt_37
theorem at_Hub_clientAt {q : Nat} {x : Int32} {σ σ' : Mem} {v : Nat} (h : f_Hub_clientAt q x σ = some (some v, σ')) : ∃ j, j < 8 ∧ v = q + 3 + (23 + 2 * j) := by
  unfold f_Hub_clientAt at h
  try simp only [bd, lt, f_X_isWithin] at h
  repeat' split at h
  all_goals first
    | (cases h; done)
    | (rename_i hib; simp only [Option.some.injEq, Prod.mk.injEq] at h; obtain ⟨rfl, -⟩ := h; exact ⟨_, ib_lt (by first | assumption | (rename_i q1; exact q1) | exact hib), rfl⟩)
    | (simp only [Option.some.injEq, Prod.mk.injEq] at h; obtain ⟨rfl, -⟩ := h; exact ⟨_, ib_lt (by assumption), rfl⟩)
    | (simp at h; done)
theorem ok_Hub_clientAt {X : CX} {q : Nat} {x : Int32} {σ σ' : Mem} {v : Nat} (hq : HubOK X q) (h : f_Hub_clientAt q x σ = some (some v, σ')) : ClientOK X v := by
  obtain ⟨j, hj, rfl⟩ := at_Hub_clientAt h
  exact hq.2.2.2.2.2.2.2 j hj
def y_Hub_hasAllSensors : MethodName := ⟨"SensorHub$Hub", "hasAllSensors", "()Z"⟩
theorem d_Hub_hasAllSensors_0 : decode prog_4_method_8_code 0 = .ok (.aload_n 0, 1) := by decide +kernel
theorem d_Hub_hasAllSensors_1 : decode prog_4_method_8_code 1 = .ok (.getfield 59, 3) := by decide +kernel
theorem d_Hub_hasAllSensors_4 : decode prog_4_method_8_code 4 = .ok (.bipush 8, 2) := by decide +kernel
theorem d_Hub_hasAllSensors_6 : decode prog_4_method_8_code 6 = .ok (.if_icmp .lt 7, 3) := by decide +kernel
theorem d_Hub_hasAllSensors_9 : decode prog_4_method_8_code 9 = .ok (.iconst 1, 1) := by decide +kernel
theorem d_Hub_hasAllSensors_10 : decode prog_4_method_8_code 10 = .ok (.goto 4, 3) := by decide +kernel
theorem d_Hub_hasAllSensors_13 : decode prog_4_method_8_code 13 = .ok (.iconst 0, 1) := by decide +kernel
theorem d_Hub_hasAllSensors_14 : decode prog_4_method_8_code 14 = .ok (.ireturn, 1) := by decide +kernel
def f_Hub_hasAllSensors (q : Nat) (σ : Mem) : Option (Int32 × Mem) :=
  if (σ q 4) < (8 : Int32) then some ((0 : Int32), σ) else some ((1 : Int32), σ)
set_option maxRecDepth 100000 in
set_option maxHeartbeats 4000000 in
theorem c_Hub_hasAllSensors {X : CX} (l : Launch) (q : Nat) (hq : HubOK X q) (σ : Mem) : CT X l y_Hub_hasAllSensors prog_4_method_8_code 1 (some .boolean) 0 vI [.ref (xa X q)] σ (f_Hub_hasAllSensors q σ) := by
  refine CT_of (by decide +kernel) (Nat.le_of_ble_eq_true rfl) ?_
  intro p e s m args below meth c F hlk hr
  have F : FR p s m args c prog_4_method_8_code 1 "SensorHub$Hub" X := F
  show G X p l e (rmD 0) s m args below meth c 1 0 0 (QI X below args s vI) 0 [(0, .ref (xa X q))] [] σ _
  unfold f_Hub_hasAllSensors
  refine g_aload_n F d_Hub_hasAllSensors_0 0 rfl ?_
  refine g_getI F fs_2_59 hq.1 rfl d_Hub_hasAllSensors_1 ?_
  refine g_bipush F (v := 8) d_Hub_hasAllSensors_4 (by decide) ?_
  refine g_icmp_lt F (tgt := 13) d_Hub_hasAllSensors_6 (by decide) (fun h1 => ?_) (fun h2 => ?_)
  · refine g_iconst F (v := 0) d_Hub_hasAllSensors_13 (by decide) ?_
    exact g_zretC F hlk hr (by decide) d_Hub_hasAllSensors_14
  refine g_iconst F (v := 1) d_Hub_hasAllSensors_9 (by decide) ?_
  refine g_goto F (tgt := 14) d_Hub_hasAllSensors_10 (by decide) ?_
  exact g_zretC F hlk hr (by decide) d_Hub_hasAllSensors_14
def y_Hub_isPhysical : MethodName := ⟨"SensorHub$Hub", "isPhysical", "(I)Z"⟩
theorem d_Hub_isPhysical_0 : decode prog_4_method_9_code 0 = .ok (.aload_n 0, 1) := by decide +kernel
theorem d_Hub_isPhysical_1 : decode prog_4_method_9_code 1 = .ok (.iload_n 1, 1) := by decide +kernel
theorem d_Hub_isPhysical_2 : decode prog_4_method_9_code 2 = .ok (.invokevirtual 101, 3) := by decide +kernel
theorem d_Hub_isPhysical_5 : decode prog_4_method_9_code 5 = .ok (.astore_n 2, 1) := by decide +kernel
theorem d_Hub_isPhysical_6 : decode prog_4_method_9_code 6 = .ok (.aload_n 2, 1) := by decide +kernel
theorem d_Hub_isPhysical_7 : decode prog_4_method_9_code 7 = .ok (.ifnull 15, 3) := by decide +kernel
theorem d_Hub_isPhysical_10 : decode prog_4_method_9_code 10 = .ok (.aload_n 2, 1) := by decide +kernel
theorem d_Hub_isPhysical_11 : decode prog_4_method_9_code 11 = .ok (.getfield 104, 3) := by decide +kernel
theorem d_Hub_isPhysical_14 : decode prog_4_method_9_code 14 = .ok (.iconst 4, 1) := by decide +kernel
theorem d_Hub_isPhysical_15 : decode prog_4_method_9_code 15 = .ok (.if_icmp .ne 7, 3) := by decide +kernel
theorem d_Hub_isPhysical_18 : decode prog_4_method_9_code 18 = .ok (.iconst 1, 1) := by decide +kernel
theorem d_Hub_isPhysical_19 : decode prog_4_method_9_code 19 = .ok (.goto 4, 3) := by decide +kernel
theorem d_Hub_isPhysical_22 : decode prog_4_method_9_code 22 = .ok (.iconst 0, 1) := by decide +kernel
theorem d_Hub_isPhysical_23 : decode prog_4_method_9_code 23 = .ok (.ireturn, 1) := by decide +kernel
theorem cv_2_101 : CSV "SensorHub$Hub" 101 y_Hub_sensorAt prog_4_method_6_code 2 (some (.object "SensorHub$Sensor")) 1 := ⟨gw_I 471 (by decide +kernel) rfl, gw_I 464 (by decide +kernel) rfl, gw_I 465 (by decide +kernel) rfl, gw_I 71 (by decide +kernel) rfl, gw_I 466 (by decide +kernel) rfl, ⟨by decide +kernel, by decide +kernel⟩, by decide +kernel⟩
theorem fs_2_104 : FS "SensorHub$Hub" 104 4 0 := ⟨"SensorHub$Sensor", T_4, 18, rfl, by decide, rfl, gw_I 146 (by decide +kernel) rfl⟩
def f_Hub_isPhysical (q : Nat) (p1 : Int32) (σ : Mem) : Option (Int32 × Mem) :=
  bd (f_Hub_sensorAt q p1 σ) fun r1 σ2 =>
  oe r1 (
    some ((0 : Int32), σ2)
  ) (fun o3 =>
    if (σ2 o3 0) = (4 : Int32) then some ((1 : Int32), σ2) else some ((0 : Int32), σ2)
  )
set_option maxRecDepth 100000 in
set_option maxHeartbeats 4000000 in
theorem c_Hub_isPhysical {X : CX} (l : Launch) (q : Nat) (p1 : Int32) (hq : HubOK X q) (σ : Mem) : CT X l y_Hub_isPhysical prog_4_method_9_code 3 (some .boolean) 1 vI [.ref (xa X q), .int p1] σ (f_Hub_isPhysical q p1 σ) := by
  refine CT_of (by decide +kernel) (Nat.le_of_ble_eq_true rfl) ?_
  intro p e s m args below meth c F hlk hr
  have F : FR p s m args c prog_4_method_9_code 3 "SensorHub$Hub" X := F
  show G X p l e (rmD 1) s m args below meth c 3 0 0 (QI X below args s vI) 0 [(0, .ref (xa X q)), (1, .int p1)] [] σ _
  unfold f_Hub_isPhysical
  refine g_aload_n F d_Hub_isPhysical_0 0 rfl ?_
  refine g_iload_n F d_Hub_isPhysical_1 1 rfl ?_
  refine g_callV F (dp := 0) (ci := 2) (As := [.int p1]) (c_Hub_sensorAt l _ _ hq _) cv_2_101 hq.1 rfl rfl rfl (Nat.le_of_ble_eq_true rfl) ⟨Nat.le_of_ble_eq_true rfl, Nat.le_of_ble_eq_true rfl⟩ ⟨Nat.zero_le _, Nat.zero_le _⟩ d_Hub_isPhysical_2 (fun r1 σ2 h1 => ?_)
  refine g_oe (fun h2 => ?_) (fun o3 h3 => ?_)
  · refine g_astore_nN F (ls' := [(2, .null), (0, .ref (xa X q)), (1, .int p1)]) d_Hub_isPhysical_5 (by decide) rfl ?_
    refine g_aload_nN F d_Hub_isPhysical_6 0 rfl ?_
    refine g_ifnullN F (tgt := 22) d_Hub_isPhysical_7 (by decide) ?_
    refine g_iconst F (v := 0) d_Hub_isPhysical_22 (by decide) ?_
    exact g_zretC F hlk hr (by decide) d_Hub_isPhysical_23
  have h4 : SensorOK X o3 := ok_Hub_sensorAt hq (h3 ▸ h1)
  refine g_astore_n F (ls' := [(2, .ref (xa X o3)), (0, .ref (xa X q)), (1, .int p1)]) d_Hub_isPhysical_5 (by decide) rfl ?_
  refine g_aload_n F d_Hub_isPhysical_6 0 rfl ?_
  refine g_ifnull F d_Hub_isPhysical_7 ?_
  refine g_aload_n F d_Hub_isPhysical_10 0 rfl ?_
  refine g_getI F fs_2_104 h4.1 rfl d_Hub_isPhysical_11 ?_
  refine g_iconst F (v := 4) d_Hub_isPhysical_14 (by decide) ?_
  refine g_icmp_ne F (tgt := 22) d_Hub_isPhysical_15 (by decide) (fun h5 => ?_) (fun h6 => ?_)
  · refine g_iconst F (v := 1) d_Hub_isPhysical_18 (by decide) ?_
    refine g_goto F (tgt := 23) d_Hub_isPhysical_19 (by decide) ?_
    exact g_zretC F hlk hr (by decide) d_Hub_isPhysical_23
  refine g_iconst F (v := 0) d_Hub_isPhysical_22 (by decide) ?_
  exact g_zretC F hlk hr (by decide) d_Hub_isPhysical_23
def y_Hub_isSecond : MethodName := ⟨"SensorHub$Hub", "isSecond", "(II)Z"⟩
theorem d_Hub_isSecond_0 : decode prog_4_method_10_code 0 = .ok (.iload_n 1, 1) := by decide +kernel
theorem d_Hub_isSecond_1 : decode prog_4_method_10_code 1 = .ok (.iconst 3, 1) := by decide +kernel
theorem d_Hub_isSecond_2 : decode prog_4_method_10_code 2 = .ok (.if_icmp .ne 13, 3) := by decide +kernel
theorem d_Hub_isSecond_5 : decode prog_4_method_10_code 5 = .ok (.iload_n 2, 1) := by decide +kernel
theorem d_Hub_isSecond_6 : decode prog_4_method_10_code 6 = .ok (.iconst 1, 1) := by decide +kernel
theorem d_Hub_isSecond_7 : decode prog_4_method_10_code 7 = .ok (.bipush 8, 2) := by decide +kernel
theorem d_Hub_isSecond_9 : decode prog_4_method_10_code 9 = .ok (.invokestatic 97, 3) := by decide +kernel
theorem d_Hub_isSecond_12 : decode prog_4_method_10_code 12 = .ok (.goto 16, 3) := by decide +kernel
theorem d_Hub_isSecond_15 : decode prog_4_method_10_code 15 = .ok (.aload_n 0, 1) := by decide +kernel
theorem d_Hub_isSecond_16 : decode prog_4_method_10_code 16 = .ok (.iload_n 2, 1) := by decide +kernel
theorem d_Hub_isSecond_17 : decode prog_4_method_10_code 17 = .ok (.invokevirtual 101, 3) := by decide +kernel
theorem d_Hub_isSecond_20 : decode prog_4_method_10_code 20 = .ok (.ifnull 7, 3) := by decide +kernel
theorem d_Hub_isSecond_23 : decode prog_4_method_10_code 23 = .ok (.iconst 1, 1) := by decide +kernel
theorem d_Hub_isSecond_24 : decode prog_4_method_10_code 24 = .ok (.goto 4, 3) := by decide +kernel
theorem d_Hub_isSecond_27 : decode prog_4_method_10_code 27 = .ok (.iconst 0, 1) := by decide +kernel
theorem d_Hub_isSecond_28 : decode prog_4_method_10_code 28 = .ok (.ireturn, 1) := by decide +kernel
def f_Hub_isSecond (q : Nat) (p1 : Int32) (p2 : Int32) (σ : Mem) : Option (Int32 × Mem) :=
  if p1 = (3 : Int32) then
    bd (f_X_isWithin p2 (1 : Int32) (8 : Int32) σ) fun r1 σ2 =>
    if r1 &&& 1 = r1 then some (r1, σ2) else none
  else
    bd (f_Hub_sensorAt q p2 σ) fun r3 σ4 =>
    oe r3 (
      some ((0 : Int32), σ4)
    ) (fun o5 =>
      some ((1 : Int32), σ4)
    )
set_option maxRecDepth 100000 in
set_option maxHeartbeats 4000000 in
theorem c_Hub_isSecond {X : CX} (l : Launch) (q : Nat) (p1 : Int32) (p2 : Int32) (hq : HubOK X q) (σ : Mem) : CT X l y_Hub_isSecond prog_4_method_10_code 3 (some .boolean) 1 vI [.ref (xa X q), .int p1, .int p2] σ (f_Hub_isSecond q p1 p2 σ) := by
  refine CT_of (by decide +kernel) (Nat.le_of_ble_eq_true rfl) ?_
  intro p e s m args below meth c F hlk hr
  have F : FR p s m args c prog_4_method_10_code 3 "SensorHub$Hub" X := F
  show G X p l e (rmD 1) s m args below meth c 3 0 0 (QI X below args s vI) 0 [(0, .ref (xa X q)), (1, .int p1), (2, .int p2)] [] σ _
  unfold f_Hub_isSecond
  refine g_iload_n F d_Hub_isSecond_0 1 rfl ?_
  refine g_iconst F (v := 3) d_Hub_isSecond_1 (by decide) ?_
  refine g_icmp_ne F (tgt := 15) d_Hub_isSecond_2 (by decide) (fun h1 => ?_) (fun h2 => ?_)
  · refine g_iload_n F d_Hub_isSecond_5 2 rfl ?_
    refine g_iconst F (v := 1) d_Hub_isSecond_6 (by decide) ?_
    refine g_bipush F (v := 8) d_Hub_isSecond_7 (by decide) ?_
    refine g_callSN F (dp := 0) (As := [.int p2, .int (1 : Int32), .int (8 : Int32)]) (c_X_isWithin l _ _ _ _) cs_2_97 rfl rfl (Nat.le_of_ble_eq_true rfl) ⟨Nat.le_of_ble_eq_true rfl, Nat.le_of_ble_eq_true rfl⟩ ⟨Nat.zero_le _, Nat.zero_le _⟩ d_Hub_isSecond_9 (fun r1 σ2 h3 => ?_)
    refine g_goto F (tgt := 28) d_Hub_isSecond_12 (by decide) ?_
    exact g_zret F hlk hr d_Hub_isSecond_28
  refine g_aload_n F d_Hub_isSecond_15 0 rfl ?_
  refine g_iload_n F d_Hub_isSecond_16 2 rfl ?_
  refine g_callV F (dp := 0) (ci := 2) (As := [.int p2]) (c_Hub_sensorAt l _ _ hq _) cv_2_101 hq.1 rfl rfl rfl (Nat.le_of_ble_eq_true rfl) ⟨Nat.le_of_ble_eq_true rfl, Nat.le_of_ble_eq_true rfl⟩ ⟨Nat.zero_le _, Nat.zero_le _⟩ d_Hub_isSecond_17 (fun r3 σ4 h4 => ?_)
  refine g_oe (fun h5 => ?_) (fun o5 h6 => ?_)
  · refine g_ifnullN F (tgt := 27) d_Hub_isSecond_20 (by decide) ?_
    refine g_iconst F (v := 0) d_Hub_isSecond_27 (by decide) ?_
    exact g_zretC F hlk hr (by decide) d_Hub_isSecond_28
  have h7 : SensorOK X o5 := ok_Hub_sensorAt hq (h6 ▸ h4)
  refine g_ifnull F d_Hub_isSecond_20 ?_
  refine g_iconst F (v := 1) d_Hub_isSecond_23 (by decide) ?_
  refine g_goto F (tgt := 28) d_Hub_isSecond_24 (by decide) ?_
  exact g_zretC F hlk hr (by decide) d_Hub_isSecond_28
def y_Hub_addPhysical : MethodName := ⟨"SensorHub$Hub", "addPhysical", "(IIIIII)I"⟩
theorem d_Hub_addPhysical_0 : decode prog_4_method_11_code 0 = .ok (.aload_n 0, 1) := by decide +kernel
theorem d_Hub_addPhysical_1 : decode prog_4_method_11_code 1 = .ok (.getfield 59, 3) := by decide +kernel
theorem d_Hub_addPhysical_4 : decode prog_4_method_11_code 4 = .ok (.istore 7, 2) := by decide +kernel
theorem d_Hub_addPhysical_6 : decode prog_4_method_11_code 6 = .ok (.aload_n 0, 1) := by decide +kernel
theorem d_Hub_addPhysical_7 : decode prog_4_method_11_code 7 = .ok (.iload 7, 2) := by decide +kernel
theorem d_Hub_addPhysical_9 : decode prog_4_method_11_code 9 = .ok (.invokevirtual 87, 3) := by decide +kernel
theorem d_Hub_addPhysical_12 : decode prog_4_method_11_code 12 = .ok (.astore 8, 2) := by decide +kernel
theorem d_Hub_addPhysical_14 : decode prog_4_method_11_code 14 = .ok (.aload 8, 2) := by decide +kernel
theorem d_Hub_addPhysical_16 : decode prog_4_method_11_code 16 = .ok (.ifnull 39, 3) := by decide +kernel
theorem d_Hub_addPhysical_19 : decode prog_4_method_11_code 19 = .ok (.aload 8, 2) := by decide +kernel
theorem d_Hub_addPhysical_21 : decode prog_4_method_11_code 21 = .ok (.iload_n 1, 1) := by decide +kernel
theorem d_Hub_addPhysical_22 : decode prog_4_method_11_code 22 = .ok (.iload_n 2, 1) := by decide +kernel
theorem d_Hub_addPhysical_23 : decode prog_4_method_11_code 23 = .ok (.iload_n 3, 1) := by decide +kernel
theorem d_Hub_addPhysical_24 : decode prog_4_method_11_code 24 = .ok (.iload 4, 2) := by decide +kernel
theorem d_Hub_addPhysical_26 : decode prog_4_method_11_code 26 = .ok (.iload 5, 2) := by decide +kernel
theorem d_Hub_addPhysical_28 : decode prog_4_method_11_code 28 = .ok (.iload 6, 2) := by decide +kernel
theorem d_Hub_addPhysical_30 : decode prog_4_method_11_code 30 = .ok (.invokevirtual 107, 3) := by decide +kernel
theorem d_Hub_addPhysical_33 : decode prog_4_method_11_code 33 = .ok (.aload 8, 2) := by decide +kernel
theorem d_Hub_addPhysical_35 : decode prog_4_method_11_code 35 = .ok (.iload 7, 2) := by decide +kernel
theorem d_Hub_addPhysical_37 : decode prog_4_method_11_code 37 = .ok (.putfield 111, 3) := by decide +kernel
theorem d_Hub_addPhysical_40 : decode prog_4_method_11_code 40 = .ok (.aload 8, 2) := by decide +kernel
theorem d_Hub_addPhysical_42 : decode prog_4_method_11_code 42 = .ok (.invokevirtual 114, 3) := by decide +kernel
theorem d_Hub_addPhysical_45 : decode prog_4_method_11_code 45 = .ok (.aload_n 0, 1) := by decide +kernel
theorem d_Hub_addPhysical_46 : decode prog_4_method_11_code 46 = .ok (.dup, 1) := by decide +kernel
theorem d_Hub_addPhysical_47 : decode prog_4_method_11_code 47 = .ok (.getfield 59, 3) := by decide +kernel
theorem d_Hub_addPhysical_50 : decode prog_4_method_11_code 50 = .ok (.iconst 1, 1) := by decide +kernel
theorem d_Hub_addPhysical_51 : decode prog_4_method_11_code 51 = .ok (.iadd, 1) := by decide +kernel
theorem d_Hub_addPhysical_52 : decode prog_4_method_11_code 52 = .ok (.putfield 59, 3) := by decide +kernel
theorem d_Hub_addPhysical_55 : decode prog_4_method_11_code 55 = .ok (.iload 7, 2) := by decide +kernel
theorem d_Hub_addPhysical_57 : decode prog_4_method_11_code 57 = .ok (.ireturn, 1) := by decide +kernel
theorem cv_2_107 : CSV "SensorHub$Hub" 107 y_Sen_becomePhysical prog_6_method_2_code 7 none 6 := ⟨gw_I 447 (by decide +kernel) rfl, gw_I 448 (by decide +kernel) rfl, gw_I 449 (by decide +kernel) rfl, gw_I 74 (by decide +kernel) rfl, gw_I 450 (by decide +kernel) rfl, ⟨by decide +kernel, by decide +kernel⟩, by decide +kernel⟩
theorem fw_2_111 : FW "SensorHub$Hub" 111 4 9 .int := ⟨"SensorHub$Sensor", T_4, 18, rfl, by decide, rfl, gw_I 162 (by decide +kernel) rfl, rfl, by decide +kernel⟩
theorem cv_2_114 : CSV "SensorHub$Hub" 114 y_Sen_becomeIdle prog_6_method_4_code 1 none 0 := ⟨gw_I 451 (by decide +kernel) rfl, gw_I 452 (by decide +kernel) rfl, gw_I 453 (by decide +kernel) rfl, gw_I 74 (by decide +kernel) rfl, gw_I 454 (by decide +kernel) rfl, ⟨by decide +kernel, by decide +kernel⟩, by decide +kernel⟩
def f_Hub_addPhysical (q : Nat) (p1 : Int32) (p2 : Int32) (p3 : Int32) (p4 : Int32) (p5 : Int32) (p6 : Int32) (σ : Mem) : Option (Int32 × Mem) :=
  lt (σ q 4) fun v1 =>
  bd (f_Hub_sensorRoom q v1 σ) fun r2 σ3 =>
  oe r2 (
    some (v1, σ3)
  ) (fun o4 =>
    bd (f_Sen_becomePhysical o4 p1 p2 p3 p4 p5 p6 σ3) fun _ σ6 =>
    lt (wr σ6 o4 9 v1) fun σ7 =>
    bd (f_Sen_becomeIdle o4 σ7) fun _ σ9 =>
    lt (wr σ9 q 4 ((σ9 q 4) + (1 : Int32))) fun σ10 =>
    some (v1, σ10)
  )
set_option maxRecDepth 100000 in
set_option maxHeartbeats 4000000 in
theorem c_Hub_addPhysical {X : CX} (l : Launch) (q : Nat) (p1 : Int32) (p2 : Int32) (p3 : Int32) (p4 : Int32) (p5 : Int32) (p6 : Int32) (hq : HubOK X q) (σ : Mem) : CT X l y_Hub_addPhysical prog_4_method_11_code 9 (some .int) 2 vI [.ref (xa X q), .int p1, .int p2, .int p3, .int p4, .int p5, .int p6] σ (f_Hub_addPhysical q p1 p2 p3 p4 p5 p6 σ) := by
  refine CT_of (by decide +kernel) (Nat.le_of_ble_eq_true rfl) ?_
  intro p e s m args below meth c F hlk hr
  have F : FR p s m args c prog_4_method_11_code 9 "SensorHub$Hub" X := F
  show G X p l e (rmD 2) s m args below meth c 9 0 0 (QI X below args s vI) 0 [(0, .ref (xa X q)), (1, .int p1), (2, .int p2), (3, .int p3), (4, .int p4), (5, .int p5), (6, .int p6)] [] σ _
  unfold f_Hub_addPhysical
  refine g_aload_n F d_Hub_addPhysical_0 0 rfl ?_
  refine g_getI F fs_2_59 hq.1 rfl d_Hub_addPhysical_1 ?_
  refine g_ltI (fun v1 _ => ?_)
  refine g_istore F (ls' := [(7, .int v1), (0, .ref (xa X q)), (1, .int p1), (2, .int p2), (3, .int p3), (4, .int p4), (5, .int p5), (6, .int p6)]) d_Hub_addPhysical_4 (by decide) rfl ?_
  refine g_aload_n F d_Hub_addPhysical_6 1 rfl ?_
  refine g_iload F d_Hub_addPhysical_7 0 rfl ?_
  refine g_callV F (dp := 1) (ci := 2) (As := [.int v1]) (c_Hub_sensorRoom l _ _ hq _) cv_2_87 hq.1 rfl rfl rfl (Nat.le_of_ble_eq_true rfl) ⟨Nat.le_of_ble_eq_true rfl, Nat.le_of_ble_eq_true rfl⟩ ⟨Nat.zero_le _, Nat.zero_le _⟩ d_Hub_addPhysical_9 (fun r2 σ3 h1 => ?_)
  refine g_oe (fun h2 => ?_) (fun o4 h3 => ?_)
  · refine g_astoreN F (ls' := [(8, .null), (7, .int v1), (0, .ref (xa X q)), (1, .int p1), (2, .int p2), (3, .int p3), (4, .int p4), (5, .int p5), (6, .int p6)]) d_Hub_addPhysical_12 (by decide) rfl ?_
    refine g_aloadN F d_Hub_addPhysical_14 0 rfl ?_
    refine g_ifnullN F (tgt := 55) d_Hub_addPhysical_16 (by decide) ?_
    refine g_iload F d_Hub_addPhysical_55 1 rfl ?_
    exact g_iret F hlk hr d_Hub_addPhysical_57
  have h4 : SensorOK X o4 := ok_Hub_sensorRoom hq (h3 ▸ h1)
  refine g_astore F (ls' := [(8, .ref (xa X o4)), (7, .int v1), (0, .ref (xa X q)), (1, .int p1), (2, .int p2), (3, .int p3), (4, .int p4), (5, .int p5), (6, .int p6)]) d_Hub_addPhysical_12 (by decide) rfl ?_
  refine g_aload F d_Hub_addPhysical_14 0 rfl ?_
  refine g_ifnull F d_Hub_addPhysical_16 ?_
  refine g_aload F d_Hub_addPhysical_19 0 rfl ?_
  refine g_iload_n F d_Hub_addPhysical_21 3 rfl ?_
  refine g_iload_n F d_Hub_addPhysical_22 4 rfl ?_
  refine g_iload_n F d_Hub_addPhysical_23 5 rfl ?_
  refine g_iload F d_Hub_addPhysical_24 6 rfl ?_
  refine g_iload F d_Hub_addPhysical_26 7 rfl ?_
  refine g_iload F d_Hub_addPhysical_28 8 rfl ?_
  refine g_callV F (dp := 0) (ci := 4) (As := [.int p1, .int p2, .int p3, .int p4, .int p5, .int p6]) (c_Sen_becomePhysical l _ _ _ _ _ _ _ h4 _) cv_2_107 h4.1 rfl rfl rfl (Nat.le_of_ble_eq_true rfl) ⟨Nat.le_of_ble_eq_true rfl, Nat.le_of_ble_eq_true rfl⟩ ⟨Nat.zero_le _, Nat.zero_le _⟩ d_Hub_addPhysical_30 (fun _ σ6 h5 => ?_)
  refine g_aload F d_Hub_addPhysical_33 0 rfl ?_
  refine g_iload F d_Hub_addPhysical_35 1 rfl ?_
  refine g_putI F fw_2_111 h4.1 rfl d_Hub_addPhysical_37 ?_
  refine g_ltM (fun σ7 _ => ?_)
  refine g_aload F d_Hub_addPhysical_40 0 rfl ?_
  refine g_callV F (dp := 1) (ci := 4) (As := []) (c_Sen_becomeIdle l _ h4 _) cv_2_114 h4.1 rfl rfl rfl (Nat.le_of_ble_eq_true rfl) ⟨Nat.le_of_ble_eq_true rfl, Nat.le_of_ble_eq_true rfl⟩ ⟨Nat.zero_le _, Nat.zero_le _⟩ d_Hub_addPhysical_42 (fun _ σ9 h6 => ?_)
  refine g_aload_n F d_Hub_addPhysical_45 2 rfl ?_
  refine g_dup F d_Hub_addPhysical_46 rfl ?_
  refine g_getI F fs_2_59 hq.1 rfl d_Hub_addPhysical_47 ?_
  refine g_iconst F (v := 1) d_Hub_addPhysical_50 (by decide) ?_
  refine g_iadd F d_Hub_addPhysical_51 ?_
  refine g_putI F fw_2_59 hq.1 rfl d_Hub_addPhysical_52 ?_
  refine g_ltM (fun σ10 _ => ?_)
  refine g_iload F d_Hub_addPhysical_55 1 rfl ?_
  exact g_iret F hlk hr d_Hub_addPhysical_57
def y_Hub_addComputed : MethodName := ⟨"SensorHub$Hub", "addComputed", "(III)I"⟩
theorem d_Hub_addComputed_0 : decode prog_4_method_12_code 0 = .ok (.aload_n 0, 1) := by decide +kernel
theorem d_Hub_addComputed_1 : decode prog_4_method_12_code 1 = .ok (.getfield 59, 3) := by decide +kernel
theorem d_Hub_addComputed_4 : decode prog_4_method_12_code 4 = .ok (.istore 4, 2) := by decide +kernel
theorem d_Hub_addComputed_6 : decode prog_4_method_12_code 6 = .ok (.aload_n 0, 1) := by decide +kernel
theorem d_Hub_addComputed_7 : decode prog_4_method_12_code 7 = .ok (.iload 4, 2) := by decide +kernel
theorem d_Hub_addComputed_9 : decode prog_4_method_12_code 9 = .ok (.invokevirtual 87, 3) := by decide +kernel
theorem d_Hub_addComputed_12 : decode prog_4_method_12_code 12 = .ok (.astore 5, 2) := by decide +kernel
theorem d_Hub_addComputed_14 : decode prog_4_method_12_code 14 = .ok (.aload_n 0, 1) := by decide +kernel
theorem d_Hub_addComputed_15 : decode prog_4_method_12_code 15 = .ok (.iload_n 2, 1) := by decide +kernel
theorem d_Hub_addComputed_16 : decode prog_4_method_12_code 16 = .ok (.invokevirtual 101, 3) := by decide +kernel
theorem d_Hub_addComputed_19 : decode prog_4_method_12_code 19 = .ok (.astore 6, 2) := by decide +kernel
theorem d_Hub_addComputed_21 : decode prog_4_method_12_code 21 = .ok (.iload_n 1, 1) := by decide +kernel
theorem d_Hub_addComputed_22 : decode prog_4_method_12_code 22 = .ok (.iconst 3, 1) := by decide +kernel
theorem d_Hub_addComputed_23 : decode prog_4_method_12_code 23 = .ok (.if_icmp .ne 8, 3) := by decide +kernel
theorem d_Hub_addComputed_26 : decode prog_4_method_12_code 26 = .ok (.aload 6, 2) := by decide +kernel
theorem d_Hub_addComputed_28 : decode prog_4_method_12_code 28 = .ok (.goto 8, 3) := by decide +kernel
theorem d_Hub_addComputed_31 : decode prog_4_method_12_code 31 = .ok (.aload_n 0, 1) := by decide +kernel
theorem d_Hub_addComputed_32 : decode prog_4_method_12_code 32 = .ok (.iload_n 3, 1) := by decide +kernel
theorem d_Hub_addComputed_33 : decode prog_4_method_12_code 33 = .ok (.invokevirtual 101, 3) := by decide +kernel
theorem d_Hub_addComputed_36 : decode prog_4_method_12_code 36 = .ok (.astore 7, 2) := by decide +kernel
theorem d_Hub_addComputed_38 : decode prog_4_method_12_code 38 = .ok (.aload 5, 2) := by decide +kernel
theorem d_Hub_addComputed_40 : decode prog_4_method_12_code 40 = .ok (.ifnull 64, 3) := by decide +kernel
theorem d_Hub_addComputed_43 : decode prog_4_method_12_code 43 = .ok (.aload 6, 2) := by decide +kernel
theorem d_Hub_addComputed_45 : decode prog_4_method_12_code 45 = .ok (.ifnull 59, 3) := by decide +kernel
theorem d_Hub_addComputed_48 : decode prog_4_method_12_code 48 = .ok (.aload 7, 2) := by decide +kernel
theorem d_Hub_addComputed_50 : decode prog_4_method_12_code 50 = .ok (.ifnull 54, 3) := by decide +kernel
theorem d_Hub_addComputed_53 : decode prog_4_method_12_code 53 = .ok (.aload 5, 2) := by decide +kernel
theorem d_Hub_addComputed_55 : decode prog_4_method_12_code 55 = .ok (.iload_n 1, 1) := by decide +kernel
theorem d_Hub_addComputed_56 : decode prog_4_method_12_code 56 = .ok (.iload_n 2, 1) := by decide +kernel
theorem d_Hub_addComputed_57 : decode prog_4_method_12_code 57 = .ok (.iload_n 3, 1) := by decide +kernel
theorem d_Hub_addComputed_58 : decode prog_4_method_12_code 58 = .ok (.invokevirtual 117, 3) := by decide +kernel
theorem d_Hub_addComputed_61 : decode prog_4_method_12_code 61 = .ok (.aload 5, 2) := by decide +kernel
theorem d_Hub_addComputed_63 : decode prog_4_method_12_code 63 = .ok (.aload 6, 2) := by decide +kernel
theorem d_Hub_addComputed_65 : decode prog_4_method_12_code 65 = .ok (.getfield 121, 3) := by decide +kernel
theorem d_Hub_addComputed_68 : decode prog_4_method_12_code 68 = .ok (.aload 7, 2) := by decide +kernel
theorem d_Hub_addComputed_70 : decode prog_4_method_12_code 70 = .ok (.getfield 121, 3) := by decide +kernel
theorem d_Hub_addComputed_73 : decode prog_4_method_12_code 73 = .ok (.invokestatic 124, 3) := by decide +kernel
theorem d_Hub_addComputed_76 : decode prog_4_method_12_code 76 = .ok (.putfield 121, 3) := by decide +kernel
theorem d_Hub_addComputed_79 : decode prog_4_method_12_code 79 = .ok (.aload 5, 2) := by decide +kernel
theorem d_Hub_addComputed_81 : decode prog_4_method_12_code 81 = .ok (.aload 6, 2) := by decide +kernel
theorem d_Hub_addComputed_83 : decode prog_4_method_12_code 83 = .ok (.getfield 111, 3) := by decide +kernel
theorem d_Hub_addComputed_86 : decode prog_4_method_12_code 86 = .ok (.putfield 111, 3) := by decide +kernel
theorem d_Hub_addComputed_89 : decode prog_4_method_12_code 89 = .ok (.aload 5, 2) := by decide +kernel
theorem d_Hub_addComputed_91 : decode prog_4_method_12_code 91 = .ok (.invokevirtual 114, 3) := by decide +kernel
theorem d_Hub_addComputed_94 : decode prog_4_method_12_code 94 = .ok (.aload_n 0, 1) := by decide +kernel
theorem d_Hub_addComputed_95 : decode prog_4_method_12_code 95 = .ok (.dup, 1) := by decide +kernel
theorem d_Hub_addComputed_96 : decode prog_4_method_12_code 96 = .ok (.getfield 59, 3) := by decide +kernel
theorem d_Hub_addComputed_99 : decode prog_4_method_12_code 99 = .ok (.iconst 1, 1) := by decide +kernel
theorem d_Hub_addComputed_100 : decode prog_4_method_12_code 100 = .ok (.iadd, 1) := by decide +kernel
theorem d_Hub_addComputed_101 : decode prog_4_method_12_code 101 = .ok (.putfield 59, 3) := by decide +kernel
theorem d_Hub_addComputed_104 : decode prog_4_method_12_code 104 = .ok (.iload 4, 2) := by decide +kernel
theorem d_Hub_addComputed_106 : decode prog_4_method_12_code 106 = .ok (.ireturn, 1) := by decide +kernel
theorem cv_2_117 : CSV "SensorHub$Hub" 117 y_Sen_becomeComputed prog_6_method_3_code 4 none 3 := ⟨gw_I 476 (by decide +kernel) rfl, gw_I 477 (by decide +kernel) rfl, gw_I 478 (by decide +kernel) rfl, gw_I 74 (by decide +kernel) rfl, gw_I 479 (by decide +kernel) rfl, ⟨by decide +kernel, by decide +kernel⟩, by decide +kernel⟩
theorem fs_2_121 : FS "SensorHub$Hub" 121 4 1 := ⟨"SensorHub$Sensor", T_4, 18, rfl, by decide, rfl, gw_I 150 (by decide +kernel) rfl⟩
theorem cs_2_124 : CSS "SensorHub$Hub" 124 y_Mat_max prog_11_method_65_code 2 (some .int) 2 := ⟨gw_I 480 (by decide +kernel) rfl, gw_I 481 (by decide +kernel) rfl, gw_I 79 (by decide +kernel) rfl, gw_I 482 (by decide +kernel) rfl, ⟨by decide +kernel, by decide +kernel⟩, by decide +kernel⟩
theorem fw_2_121 : FW "SensorHub$Hub" 121 4 1 .int := ⟨"SensorHub$Sensor", T_4, 18, rfl, by decide, rfl, gw_I 150 (by decide +kernel) rfl, rfl, by decide +kernel⟩
theorem fs_2_111 : FS "SensorHub$Hub" 111 4 9 := ⟨"SensorHub$Sensor", T_4, 18, rfl, by decide, rfl, gw_I 162 (by decide +kernel) rfl⟩
def f_Hub_addComputed (q : Nat) (p1 : Int32) (p2 : Int32) (p3 : Int32) (σ : Mem) : Option (Int32 × Mem) :=
  lt (σ q 4) fun v1 =>
  bd (f_Hub_sensorRoom q v1 σ) fun r2 σ3 =>
  oe r2 (
    bd (f_Hub_sensorAt q p2 σ3) fun r5 σ6 =>
    oe r5 (
      if p1 = (3 : Int32) then
        some (v1, σ6)
      else
        bd (f_Hub_sensorAt q p3 σ6) fun r8 σ9 =>
        oe r8 (
          some (v1, σ9)
        ) (fun o10 =>
          some (v1, σ9)
        )
    ) (fun o7 =>
      if p1 = (3 : Int32) then
        some (v1, σ6)
      else
        bd (f_Hub_sensorAt q p3 σ6) fun r11 σ12 =>
        oe r11 (
          some (v1, σ12)
        ) (fun o13 =>
          some (v1, σ12)
        )
    )
  ) (fun o4 =>
    bd (f_Hub_sensorAt q p2 σ3) fun r14 σ15 =>
    oe r14 (
      if p1 = (3 : Int32) then
        some (v1, σ15)
      else
        bd (f_Hub_sensorAt q p3 σ15) fun r17 σ18 =>
        oe r17 (
          some (v1, σ18)
        ) (fun o19 =>
          some (v1, σ18)
        )
    ) (fun o16 =>
      if p1 = (3 : Int32) then
        bd (f_Sen_becomeComputed o4 p1 p2 p3 σ15) fun _ σ21 =>
        bd (f_Mat_max (σ21 o16 1) (σ21 o16 1) σ21) fun r22 σ23 =>
        lt (wr σ23 o4 1 r22) fun σ24 =>
        lt (wr σ24 o4 9 (σ24 o16 9)) fun σ25 =>
        bd (f_Sen_becomeIdle o4 σ25) fun _ σ27 =>
        lt (wr σ27 q 4 ((σ27 q 4) + (1 : Int32))) fun σ28 =>
        some (v1, σ28)
      else
        bd (f_Hub_sensorAt q p3 σ15) fun r29 σ30 =>
        oe r29 (
          some (v1, σ30)
        ) (fun o31 =>
          bd (f_Sen_becomeComputed o4 p1 p2 p3 σ30) fun _ σ33 =>
          bd (f_Mat_max (σ33 o16 1) (σ33 o31 1) σ33) fun r34 σ35 =>
          lt (wr σ35 o4 1 r34) fun σ36 =>
          lt (wr σ36 o4 9 (σ36 o16 9)) fun σ37 =>
          bd (f_Sen_becomeIdle o4 σ37) fun _ σ39 =>
          lt (wr σ39 q 4 ((σ39 q 4) + (1 : Int32))) fun σ40 =>
          some (v1, σ40)
        )
    )
  )
set_option maxRecDepth 100000 in
set_option maxHeartbeats 4000000 in
theorem c_Hub_addComputed {X : CX} (l : Launch) (q : Nat) (p1 : Int32) (p2 : Int32) (p3 : Int32) (hq : HubOK X q) (σ : Mem) : CT X l y_Hub_addComputed prog_4_method_12_code 8 (some .int) 2 vI [.ref (xa X q), .int p1, .int p2, .int p3] σ (f_Hub_addComputed q p1 p2 p3 σ) := by
  refine CT_of (by decide +kernel) (Nat.le_of_ble_eq_true rfl) ?_
  intro p e s m args below meth c F hlk hr
  have F : FR p s m args c prog_4_method_12_code 8 "SensorHub$Hub" X := F
  show G X p l e (rmD 2) s m args below meth c 8 0 0 (QI X below args s vI) 0 [(0, .ref (xa X q)), (1, .int p1), (2, .int p2), (3, .int p3)] [] σ _
  unfold f_Hub_addComputed
  refine g_aload_n F d_Hub_addComputed_0 0 rfl ?_
  refine g_getI F fs_2_59 hq.1 rfl d_Hub_addComputed_1 ?_
  refine g_ltI (fun v1 _ => ?_)
  refine g_istore F (ls' := [(4, .int v1), (0, .ref (xa X q)), (1, .int p1), (2, .int p2), (3, .int p3)]) d_Hub_addComputed_4 (by decide) rfl ?_
  refine g_aload_n F d_Hub_addComputed_6 1 rfl ?_
  refine g_iload F d_Hub_addComputed_7 0 rfl ?_
  refine g_callV F (dp := 1) (ci := 2) (As := [.int v1]) (c_Hub_sensorRoom l _ _ hq _) cv_2_87 hq.1 rfl rfl rfl (Nat.le_of_ble_eq_true rfl) ⟨Nat.le_of_ble_eq_true rfl, Nat.le_of_ble_eq_true rfl⟩ ⟨Nat.zero_le _, Nat.zero_le _⟩ d_Hub_addComputed_9 (fun r2 σ3 h1 => ?_)
  refine g_oe (fun h2 => ?_) (fun o4 h3 => ?_)
  · refine g_astoreN F (ls' := [(5, .null), (4, .int v1), (0, .ref (xa X q)), (1, .int p1), (2, .int p2), (3, .int p3)]) d_Hub_addComputed_12 (by decide) rfl ?_
    refine g_aload_n F d_Hub_addComputed_14 2 rfl ?_
    refine g_iload_n F d_Hub_addComputed_15 4 rfl ?_
    refine g_callV F (dp := 0) (ci := 2) (As := [.int p2]) (c_Hub_sensorAt l _ _ hq _) cv_2_101 hq.1 rfl rfl rfl (Nat.le_of_ble_eq_true rfl) ⟨Nat.le_of_ble_eq_true rfl, Nat.le_of_ble_eq_true rfl⟩ ⟨Nat.zero_le _, Nat.zero_le _⟩ d_Hub_addComputed_16 (fun r5 σ6 h5 => ?_)
    refine g_oe (fun h6 => ?_) (fun o7 h7 => ?_)
    · refine g_astoreN F (ls' := [(6, .null), (5, .null), (4, .int v1), (0, .ref (xa X q)), (1, .int p1), (2, .int p2), (3, .int p3)]) d_Hub_addComputed_19 (by decide) rfl ?_
      refine g_iload_n F d_Hub_addComputed_21 4 rfl ?_
      refine g_iconst F (v := 3) d_Hub_addComputed_22 (by decide) ?_
      refine g_icmp_ne F (tgt := 31) d_Hub_addComputed_23 (by decide) (fun h9 => ?_) (fun h10 => ?_)
      · refine g_aloadN F d_Hub_addComputed_26 0 rfl ?_
        refine g_goto F (tgt := 36) d_Hub_addComputed_28 (by decide) ?_
        refine g_astoreN F (ls' := [(7, .null), (6, .null), (5, .null), (4, .int v1), (0, .ref (xa X q)), (1, .int p1), (2, .int p2), (3, .int p3)]) d_Hub_addComputed_36 (by decide) rfl ?_
        refine g_aloadN F d_Hub_addComputed_38 2 rfl ?_
        refine g_ifnullN F (tgt := 104) d_Hub_addComputed_40 (by decide) ?_
        refine g_iload F d_Hub_addComputed_104 3 rfl ?_
        exact g_iret F hlk hr d_Hub_addComputed_106
      refine g_aload_n F d_Hub_addComputed_31 3 rfl ?_
      refine g_iload_n F d_Hub_addComputed_32 6 rfl ?_
      refine g_callV F (dp := 0) (ci := 2) (As := [.int p3]) (c_Hub_sensorAt l _ _ hq _) cv_2_101 hq.1 rfl rfl rfl (Nat.le_of_ble_eq_true rfl) ⟨Nat.le_of_ble_eq_true rfl, Nat.le_of_ble_eq_true rfl⟩ ⟨Nat.zero_le _, Nat.zero_le _⟩ d_Hub_addComputed_33 (fun r8 σ9 h11 => ?_)
      refine g_oe (fun h12 => ?_) (fun o10 h13 => ?_)
      · refine g_astoreN F (ls' := [(7, .null), (6, .null), (5, .null), (4, .int v1), (0, .ref (xa X q)), (1, .int p1), (2, .int p2), (3, .int p3)]) d_Hub_addComputed_36 (by decide) rfl ?_
        refine g_aloadN F d_Hub_addComputed_38 2 rfl ?_
        refine g_ifnullN F (tgt := 104) d_Hub_addComputed_40 (by decide) ?_
        refine g_iload F d_Hub_addComputed_104 3 rfl ?_
        exact g_iret F hlk hr d_Hub_addComputed_106
      have h14 : SensorOK X o10 := ok_Hub_sensorAt hq (h13 ▸ h11)
      refine g_astore F (ls' := [(7, .ref (xa X o10)), (6, .null), (5, .null), (4, .int v1), (0, .ref (xa X q)), (1, .int p1), (2, .int p2), (3, .int p3)]) d_Hub_addComputed_36 (by decide) rfl ?_
      refine g_aloadN F d_Hub_addComputed_38 2 rfl ?_
      refine g_ifnullN F (tgt := 104) d_Hub_addComputed_40 (by decide) ?_
      refine g_iload F d_Hub_addComputed_104 3 rfl ?_
      exact g_iret F hlk hr d_Hub_addComputed_106
    have h8 : SensorOK X o7 := ok_Hub_sensorAt hq (h7 ▸ h5)
    refine g_astore F (ls' := [(6, .ref (xa X o7)), (5, .null), (4, .int v1), (0, .ref (xa X q)), (1, .int p1), (2, .int p2), (3, .int p3)]) d_Hub_addComputed_19 (by decide) rfl ?_
    refine g_iload_n F d_Hub_addComputed_21 4 rfl ?_
    refine g_iconst F (v := 3) d_Hub_addComputed_22 (by decide) ?_
    refine g_icmp_ne F (tgt := 31) d_Hub_addComputed_23 (by decide) (fun h15 => ?_) (fun h16 => ?_)
    · refine g_aload F d_Hub_addComputed_26 0 rfl ?_
      refine g_goto F (tgt := 36) d_Hub_addComputed_28 (by decide) ?_
      refine g_astore F (ls' := [(7, .ref (xa X o7)), (6, .ref (xa X o7)), (5, .null), (4, .int v1), (0, .ref (xa X q)), (1, .int p1), (2, .int p2), (3, .int p3)]) d_Hub_addComputed_36 (by decide) rfl ?_
      refine g_aloadN F d_Hub_addComputed_38 2 rfl ?_
      refine g_ifnullN F (tgt := 104) d_Hub_addComputed_40 (by decide) ?_
      refine g_iload F d_Hub_addComputed_104 3 rfl ?_
      exact g_iret F hlk hr d_Hub_addComputed_106
    refine g_aload_n F d_Hub_addComputed_31 3 rfl ?_
    refine g_iload_n F d_Hub_addComputed_32 6 rfl ?_
    refine g_callV F (dp := 0) (ci := 2) (As := [.int p3]) (c_Hub_sensorAt l _ _ hq _) cv_2_101 hq.1 rfl rfl rfl (Nat.le_of_ble_eq_true rfl) ⟨Nat.le_of_ble_eq_true rfl, Nat.le_of_ble_eq_true rfl⟩ ⟨Nat.zero_le _, Nat.zero_le _⟩ d_Hub_addComputed_33 (fun r11 σ12 h17 => ?_)
    refine g_oe (fun h18 => ?_) (fun o13 h19 => ?_)
    · refine g_astoreN F (ls' := [(7, .null), (6, .ref (xa X o7)), (5, .null), (4, .int v1), (0, .ref (xa X q)), (1, .int p1), (2, .int p2), (3, .int p3)]) d_Hub_addComputed_36 (by decide) rfl ?_
      refine g_aloadN F d_Hub_addComputed_38 2 rfl ?_
      refine g_ifnullN F (tgt := 104) d_Hub_addComputed_40 (by decide) ?_
      refine g_iload F d_Hub_addComputed_104 3 rfl ?_
      exact g_iret F hlk hr d_Hub_addComputed_106
    have h20 : SensorOK X o13 := ok_Hub_sensorAt hq (h19 ▸ h17)
    refine g_astore F (ls' := [(7, .ref (xa X o13)), (6, .ref (xa X o7)), (5, .null), (4, .int v1), (0, .ref (xa X q)), (1, .int p1), (2, .int p2), (3, .int p3)]) d_Hub_addComputed_36 (by decide) rfl ?_
    refine g_aloadN F d_Hub_addComputed_38 2 rfl ?_
    refine g_ifnullN F (tgt := 104) d_Hub_addComputed_40 (by decide) ?_
    refine g_iload F d_Hub_addComputed_104 3 rfl ?_
    exact g_iret F hlk hr d_Hub_addComputed_106
  have h4 : SensorOK X o4 := ok_Hub_sensorRoom hq (h3 ▸ h1)
  refine g_astore F (ls' := [(5, .ref (xa X o4)), (4, .int v1), (0, .ref (xa X q)), (1, .int p1), (2, .int p2), (3, .int p3)]) d_Hub_addComputed_12 (by decide) rfl ?_
  refine g_aload_n F d_Hub_addComputed_14 2 rfl ?_
  refine g_iload_n F d_Hub_addComputed_15 4 rfl ?_
  refine g_callV F (dp := 0) (ci := 2) (As := [.int p2]) (c_Hub_sensorAt l _ _ hq _) cv_2_101 hq.1 rfl rfl rfl (Nat.le_of_ble_eq_true rfl) ⟨Nat.le_of_ble_eq_true rfl, Nat.le_of_ble_eq_true rfl⟩ ⟨Nat.zero_le _, Nat.zero_le _⟩ d_Hub_addComputed_16 (fun r14 σ15 h21 => ?_)
  refine g_oe (fun h22 => ?_) (fun o16 h23 => ?_)
  · refine g_astoreN F (ls' := [(6, .null), (5, .ref (xa X o4)), (4, .int v1), (0, .ref (xa X q)), (1, .int p1), (2, .int p2), (3, .int p3)]) d_Hub_addComputed_19 (by decide) rfl ?_
    refine g_iload_n F d_Hub_addComputed_21 4 rfl ?_
    refine g_iconst F (v := 3) d_Hub_addComputed_22 (by decide) ?_
    refine g_icmp_ne F (tgt := 31) d_Hub_addComputed_23 (by decide) (fun h25 => ?_) (fun h26 => ?_)
    · refine g_aloadN F d_Hub_addComputed_26 0 rfl ?_
      refine g_goto F (tgt := 36) d_Hub_addComputed_28 (by decide) ?_
      refine g_astoreN F (ls' := [(7, .null), (6, .null), (5, .ref (xa X o4)), (4, .int v1), (0, .ref (xa X q)), (1, .int p1), (2, .int p2), (3, .int p3)]) d_Hub_addComputed_36 (by decide) rfl ?_
      refine g_aload F d_Hub_addComputed_38 2 rfl ?_
      refine g_ifnull F d_Hub_addComputed_40 ?_
      refine g_aloadN F d_Hub_addComputed_43 1 rfl ?_
      refine g_ifnullN F (tgt := 104) d_Hub_addComputed_45 (by decide) ?_
      refine g_iload F d_Hub_addComputed_104 3 rfl ?_
      exact g_iret F hlk hr d_Hub_addComputed_106
    refine g_aload_n F d_Hub_addComputed_31 3 rfl ?_
    refine g_iload_n F d_Hub_addComputed_32 6 rfl ?_
    refine g_callV F (dp := 0) (ci := 2) (As := [.int p3]) (c_Hub_sensorAt l _ _ hq _) cv_2_101 hq.1 rfl rfl rfl (Nat.le_of_ble_eq_true rfl) ⟨Nat.le_of_ble_eq_true rfl, Nat.le_of_ble_eq_true rfl⟩ ⟨Nat.zero_le _, Nat.zero_le _⟩ d_Hub_addComputed_33 (fun r17 σ18 h27 => ?_)
    refine g_oe (fun h28 => ?_) (fun o19 h29 => ?_)
    · refine g_astoreN F (ls' := [(7, .null), (6, .null), (5, .ref (xa X o4)), (4, .int v1), (0, .ref (xa X q)), (1, .int p1), (2, .int p2), (3, .int p3)]) d_Hub_addComputed_36 (by decide) rfl ?_
      refine g_aload F d_Hub_addComputed_38 2 rfl ?_
      refine g_ifnull F d_Hub_addComputed_40 ?_
      refine g_aloadN F d_Hub_addComputed_43 1 rfl ?_
      refine g_ifnullN F (tgt := 104) d_Hub_addComputed_45 (by decide) ?_
      refine g_iload F d_Hub_addComputed_104 3 rfl ?_
      exact g_iret F hlk hr d_Hub_addComputed_106
    have h30 : SensorOK X o19 := ok_Hub_sensorAt hq (h29 ▸ h27)
    refine g_astore F (ls' := [(7, .ref (xa X o19)), (6, .null), (5, .ref (xa X o4)), (4, .int v1), (0, .ref (xa X q)), (1, .int p1), (2, .int p2), (3, .int p3)]) d_Hub_addComputed_36 (by decide) rfl ?_
    refine g_aload F d_Hub_addComputed_38 2 rfl ?_
    refine g_ifnull F d_Hub_addComputed_40 ?_
    refine g_aloadN F d_Hub_addComputed_43 1 rfl ?_
    refine g_ifnullN F (tgt := 104) d_Hub_addComputed_45 (by decide) ?_
    refine g_iload F d_Hub_addComputed_104 3 rfl ?_
    exact g_iret F hlk hr d_Hub_addComputed_106
  have h24 : SensorOK X o16 := ok_Hub_sensorAt hq (h23 ▸ h21)
  refine g_astore F (ls' := [(6, .ref (xa X o16)), (5, .ref (xa X o4)), (4, .int v1), (0, .ref (xa X q)), (1, .int p1), (2, .int p2), (3, .int p3)]) d_Hub_addComputed_19 (by decide) rfl ?_
  refine g_iload_n F d_Hub_addComputed_21 4 rfl ?_
  refine g_iconst F (v := 3) d_Hub_addComputed_22 (by decide) ?_
  refine g_icmp_ne F (tgt := 31) d_Hub_addComputed_23 (by decide) (fun h31 => ?_) (fun h32 => ?_)
  · refine g_aload F d_Hub_addComputed_26 0 rfl ?_
    refine g_goto F (tgt := 36) d_Hub_addComputed_28 (by decide) ?_
    refine g_astore F (ls' := [(7, .ref (xa X o16)), (6, .ref (xa X o16)), (5, .ref (xa X o4)), (4, .int v1), (0, .ref (xa X q)), (1, .int p1), (2, .int p2), (3, .int p3)]) d_Hub_addComputed_36 (by decide) rfl ?_
    refine g_aload F d_Hub_addComputed_38 2 rfl ?_
    refine g_ifnull F d_Hub_addComputed_40 ?_
    refine g_aload F d_Hub_addComputed_43 1 rfl ?_
    refine g_ifnull F d_Hub_addComputed_45 ?_
    refine g_aload F d_Hub_addComputed_48 0 rfl ?_
    refine g_ifnull F d_Hub_addComputed_50 ?_
    refine g_aload F d_Hub_addComputed_53 2 rfl ?_
    refine g_iload_n F d_Hub_addComputed_55 5 rfl ?_
    refine g_iload_n F d_Hub_addComputed_56 6 rfl ?_
    refine g_iload_n F d_Hub_addComputed_57 7 rfl ?_
    refine g_callV F (dp := 0) (ci := 4) (As := [.int p1, .int p2, .int p3]) (c_Sen_becomeComputed l _ _ _ _ h4 _) cv_2_117 h4.1 rfl rfl rfl (Nat.le_of_ble_eq_true rfl) ⟨Nat.le_of_ble_eq_true rfl, Nat.le_of_ble_eq_true rfl⟩ ⟨Nat.zero_le _, Nat.zero_le _⟩ d_Hub_addComputed_58 (fun _ σ21 h33 => ?_)
    refine g_aload F d_Hub_addComputed_61 2 rfl ?_
    refine g_aload F d_Hub_addComputed_63 1 rfl ?_
    refine g_getI F fs_2_121 h24.1 rfl d_Hub_addComputed_65 ?_
    refine g_aload F d_Hub_addComputed_68 0 rfl ?_
    refine g_getI F fs_2_121 h24.1 rfl d_Hub_addComputed_70 ?_
    refine g_callS F (dp := 0) (As := [.int (σ21 o16 1), .int (σ21 o16 1)]) (c_Mat_max l _ _ _) cs_2_124 rfl rfl (Nat.le_of_ble_eq_true rfl) ⟨Nat.le_of_ble_eq_true rfl, Nat.le_of_ble_eq_true rfl⟩ ⟨Nat.zero_le _, Nat.zero_le _⟩ d_Hub_addComputed_73 (fun r22 σ23 h34 => ?_)
    refine g_putI F fw_2_121 h4.1 rfl d_Hub_addComputed_76 ?_
    refine g_ltM (fun σ24 _ => ?_)
    refine g_aload F d_Hub_addComputed_79 2 rfl ?_
    refine g_aload F d_Hub_addComputed_81 1 rfl ?_
    refine g_getI F fs_2_111 h24.1 rfl d_Hub_addComputed_83 ?_
    refine g_putI F fw_2_111 h4.1 rfl d_Hub_addComputed_86 ?_
    refine g_ltM (fun σ25 _ => ?_)
    refine g_aload F d_Hub_addComputed_89 2 rfl ?_
    refine g_callV F (dp := 1) (ci := 4) (As := []) (c_Sen_becomeIdle l _ h4 _) cv_2_114 h4.1 rfl rfl rfl (Nat.le_of_ble_eq_true rfl) ⟨Nat.le_of_ble_eq_true rfl, Nat.le_of_ble_eq_true rfl⟩ ⟨Nat.zero_le _, Nat.zero_le _⟩ d_Hub_addComputed_91 (fun _ σ27 h35 => ?_)
    refine g_aload_n F d_Hub_addComputed_94 4 rfl ?_
    refine g_dup F d_Hub_addComputed_95 rfl ?_
    refine g_getI F fs_2_59 hq.1 rfl d_Hub_addComputed_96 ?_
    refine g_iconst F (v := 1) d_Hub_addComputed_99 (by decide) ?_
    refine g_iadd F d_Hub_addComputed_100 ?_
    refine g_putI F fw_2_59 hq.1 rfl d_Hub_addComputed_101 ?_
    refine g_ltM (fun σ28 _ => ?_)
    refine g_iload F d_Hub_addComputed_104 3 rfl ?_
    exact g_iret F hlk hr d_Hub_addComputed_106
  refine g_aload_n F d_Hub_addComputed_31 3 rfl ?_
  refine g_iload_n F d_Hub_addComputed_32 6 rfl ?_
  refine g_callV F (dp := 0) (ci := 2) (As := [.int p3]) (c_Hub_sensorAt l _ _ hq _) cv_2_101 hq.1 rfl rfl rfl (Nat.le_of_ble_eq_true rfl) ⟨Nat.le_of_ble_eq_true rfl, Nat.le_of_ble_eq_true rfl⟩ ⟨Nat.zero_le _, Nat.zero_le _⟩ d_Hub_addComputed_33 (fun r29 σ30 h36 => ?_)
  refine g_oe (fun h37 => ?_) (fun o31 h38 => ?_)
  · refine g_astoreN F (ls' := [(7, .null), (6, .ref (xa X o16)), (5, .ref (xa X o4)), (4, .int v1), (0, .ref (xa X q)), (1, .int p1), (2, .int p2), (3, .int p3)]) d_Hub_addComputed_36 (by decide) rfl ?_
    refine g_aload F d_Hub_addComputed_38 2 rfl ?_
    refine g_ifnull F d_Hub_addComputed_40 ?_
    refine g_aload F d_Hub_addComputed_43 1 rfl ?_
    refine g_ifnull F d_Hub_addComputed_45 ?_
    refine g_aloadN F d_Hub_addComputed_48 0 rfl ?_
    refine g_ifnullN F (tgt := 104) d_Hub_addComputed_50 (by decide) ?_
    refine g_iload F d_Hub_addComputed_104 3 rfl ?_
    exact g_iret F hlk hr d_Hub_addComputed_106
  have h39 : SensorOK X o31 := ok_Hub_sensorAt hq (h38 ▸ h36)
  refine g_astore F (ls' := [(7, .ref (xa X o31)), (6, .ref (xa X o16)), (5, .ref (xa X o4)), (4, .int v1), (0, .ref (xa X q)), (1, .int p1), (2, .int p2), (3, .int p3)]) d_Hub_addComputed_36 (by decide) rfl ?_
  refine g_aload F d_Hub_addComputed_38 2 rfl ?_
  refine g_ifnull F d_Hub_addComputed_40 ?_
  refine g_aload F d_Hub_addComputed_43 1 rfl ?_
  refine g_ifnull F d_Hub_addComputed_45 ?_
  refine g_aload F d_Hub_addComputed_48 0 rfl ?_
  refine g_ifnull F d_Hub_addComputed_50 ?_
  refine g_aload F d_Hub_addComputed_53 2 rfl ?_
  refine g_iload_n F d_Hub_addComputed_55 5 rfl ?_
  refine g_iload_n F d_Hub_addComputed_56 6 rfl ?_
  refine g_iload_n F d_Hub_addComputed_57 7 rfl ?_
  refine g_callV F (dp := 0) (ci := 4) (As := [.int p1, .int p2, .int p3]) (c_Sen_becomeComputed l _ _ _ _ h4 _) cv_2_117 h4.1 rfl rfl rfl (Nat.le_of_ble_eq_true rfl) ⟨Nat.le_of_ble_eq_true rfl, Nat.le_of_ble_eq_true rfl⟩ ⟨Nat.zero_le _, Nat.zero_le _⟩ d_Hub_addComputed_58 (fun _ σ33 h40 => ?_)
  refine g_aload F d_Hub_addComputed_61 2 rfl ?_
  refine g_aload F d_Hub_addComputed_63 1 rfl ?_
  refine g_getI F fs_2_121 h24.1 rfl d_Hub_addComputed_65 ?_
  refine g_aload F d_Hub_addComputed_68 0 rfl ?_
  refine g_getI F fs_2_121 h39.1 rfl d_Hub_addComputed_70 ?_
  refine g_callS F (dp := 0) (As := [.int (σ33 o16 1), .int (σ33 o31 1)]) (c_Mat_max l _ _ _) cs_2_124 rfl rfl (Nat.le_of_ble_eq_true rfl) ⟨Nat.le_of_ble_eq_true rfl, Nat.le_of_ble_eq_true rfl⟩ ⟨Nat.zero_le _, Nat.zero_le _⟩ d_Hub_addComputed_73 (fun r34 σ35 h41 => ?_)
  refine g_putI F fw_2_121 h4.1 rfl d_Hub_addComputed_76 ?_
  refine g_ltM (fun σ36 _ => ?_)
  refine g_aload F d_Hub_addComputed_79 2 rfl ?_
  refine g_aload F d_Hub_addComputed_81 1 rfl ?_
  refine g_getI F fs_2_111 h24.1 rfl d_Hub_addComputed_83 ?_
  refine g_putI F fw_2_111 h4.1 rfl d_Hub_addComputed_86 ?_
  refine g_ltM (fun σ37 _ => ?_)
  refine g_aload F d_Hub_addComputed_89 2 rfl ?_
  refine g_callV F (dp := 1) (ci := 4) (As := []) (c_Sen_becomeIdle l _ h4 _) cv_2_114 h4.1 rfl rfl rfl (Nat.le_of_ble_eq_true rfl) ⟨Nat.le_of_ble_eq_true rfl, Nat.le_of_ble_eq_true rfl⟩ ⟨Nat.zero_le _, Nat.zero_le _⟩ d_Hub_addComputed_91 (fun _ σ39 h42 => ?_)
  refine g_aload_n F d_Hub_addComputed_94 4 rfl ?_
  refine g_dup F d_Hub_addComputed_95 rfl ?_
  refine g_getI F fs_2_59 hq.1 rfl d_Hub_addComputed_96 ?_
  refine g_iconst F (v := 1) d_Hub_addComputed_99 (by decide) ?_
  refine g_iadd F d_Hub_addComputed_100 ?_
  refine g_putI F fw_2_59 hq.1 rfl d_Hub_addComputed_101 ?_
  refine g_ltM (fun σ40 _ => ?_)
  refine g_iload F d_Hub_addComputed_104 3 rfl ?_
  exact g_iret F hlk hr d_Hub_addComputed_106
def y_Hub_clientCount : MethodName := ⟨"SensorHub$Hub", "clientCount", "()I"⟩
theorem d_Hub_clientCount_0 : decode prog_4_method_13_code 0 = .ok (.iconst 0, 1) := by decide +kernel
theorem d_Hub_clientCount_1 : decode prog_4_method_13_code 1 = .ok (.istore_n 1, 1) := by decide +kernel
theorem d_Hub_clientCount_2 : decode prog_4_method_13_code 2 = .ok (.iconst 0, 1) := by decide +kernel
theorem d_Hub_clientCount_3 : decode prog_4_method_13_code 3 = .ok (.istore_n 2, 1) := by decide +kernel
theorem d_Hub_clientCount_4 : decode prog_4_method_13_code 4 = .ok (.iload_n 2, 1) := by decide +kernel
theorem d_Hub_clientCount_5 : decode prog_4_method_13_code 5 = .ok (.bipush 8, 2) := by decide +kernel
theorem d_Hub_clientCount_7 : decode prog_4_method_13_code 7 = .ok (.if_icmp .ge 20, 3) := by decide +kernel
theorem d_Hub_clientCount_10 : decode prog_4_method_13_code 10 = .ok (.aload_n 0, 1) := by decide +kernel
theorem d_Hub_clientCount_11 : decode prog_4_method_13_code 11 = .ok (.iload_n 2, 1) := by decide +kernel
theorem d_Hub_clientCount_12 : decode prog_4_method_13_code 12 = .ok (.invokevirtual 130, 3) := by decide +kernel
theorem d_Hub_clientCount_15 : decode prog_4_method_13_code 15 = .ok (.ifnull 6, 3) := by decide +kernel
theorem d_Hub_clientCount_18 : decode prog_4_method_13_code 18 = .ok (.iinc 1 1, 3) := by decide +kernel
theorem d_Hub_clientCount_21 : decode prog_4_method_13_code 21 = .ok (.iinc 2 1, 3) := by decide +kernel
theorem d_Hub_clientCount_24 : decode prog_4_method_13_code 24 = .ok (.goto (-20), 3) := by decide +kernel
theorem d_Hub_clientCount_27 : decode prog_4_method_13_code 27 = .ok (.iload_n 1, 1) := by decide +kernel
theorem d_Hub_clientCount_28 : decode prog_4_method_13_code 28 = .ok (.ireturn, 1) := by decide +kernel
theorem cv_2_130 : CSV "SensorHub$Hub" 130 y_Hub_clientAt prog_4_method_7_code 3 (some (.object "SensorHub$Client")) 1 := ⟨gw_I 508 (by decide +kernel) rfl, gw_I 509 (by decide +kernel) rfl, gw_I 510 (by decide +kernel) rfl, gw_I 71 (by decide +kernel) rfl, gw_I 511 (by decide +kernel) rfl, ⟨by decide +kernel, by decide +kernel⟩, by decide +kernel⟩
def L_Hub_clientCount_4 (r0 : Nat) (k : Int32 → Mem → Option (Int32 × Mem)) : Nat → Int32 → Int32 → Mem → Option (Int32 × Mem)
  | 0, _, _, _ => none
  | n + 1, x1, x2, σ =>
    if (8 : Int32) ≤ x2 then
      k x1 σ
    else
      bd (f_Hub_clientAt r0 x2 σ) fun r1 σ2 =>
      oe r1 (
        L_Hub_clientCount_4 r0 k n x1 (x2 + 1) σ2
      ) (fun o3 =>
        L_Hub_clientCount_4 r0 k n (x1 + 1) (x2 + 1) σ2
      )
def f_Hub_clientCount (q : Nat) (σ : Mem) : Option (Int32 × Mem) :=
  L_Hub_clientCount_4 q (fun z4 σ5 =>
    some (z4, σ5)) FU (0 : Int32) (0 : Int32) σ
set_option maxRecDepth 100000 in
set_option maxHeartbeats 4000000 in
theorem l_L_Hub_clientCount_4 {X : CX} {p : Program} {l : Launch} {e : Env} {s : State} {m : MethodId} {args : Array Value} {below : List Frame} {meth : Method} {c : Code} (F : FR p s m args c prog_4_method_13_code 3 "SensorHub$Hub" X) (hlk : meth.locks = false) (hr : meth.sig.returnType = some .int) (r0 : Nat) (hr0 : HubOK X r0) (k : Int32 → Mem → Option (Int32 × Mem)) (hk : ∀ (x1 : Int32) (σ : Mem), G X p l e (rmD 1) s m args below meth c 3 0 0 (QI X below args s vI) 27 [(1, .int x1)] [] σ (k x1 σ)) : ∀ (n : Nat) (x1 : Int32) (x2 : Int32) (σ : Mem), G X p l e (rmD 1) s m args below meth c 3 0 0 (QI X below args s vI) 4 [(0, .ref (xa X r0)), (1, .int x1), (2, .int x2)] [] σ (L_Hub_clientCount_4 r0 k n x1 x2 σ) := by
  intro n
  induction n with
  | zero => intros; exact g_no
  | succ n ih =>
    intro x1 x2 σ
    unfold L_Hub_clientCount_4
    refine g_iload_n F d_Hub_clientCount_4 2 rfl ?_
    refine g_bipush F (v := 8) d_Hub_clientCount_5 (by decide) ?_
    refine g_icmp_ge F (tgt := 27) d_Hub_clientCount_7 (by decide) (fun h1 => ?_) (fun h2 => ?_)
    · exact g_sub [1] rfl (hk _ _)
    refine g_aload_n F d_Hub_clientCount_10 0 rfl ?_
    refine g_iload_n F d_Hub_clientCount_11 2 rfl ?_
    refine g_callV F (dp := 0) (ci := 2) (As := [.int x2]) (c_Hub_clientAt l _ _ hr0 _) cv_2_130 hr0.1 rfl rfl rfl (Nat.le_of_ble_eq_true rfl) ⟨Nat.le_of_ble_eq_true rfl, Nat.le_of_ble_eq_true rfl⟩ ⟨Nat.zero_le _, Nat.zero_le _⟩ d_Hub_clientCount_12 (fun r1 σ2 h3 => ?_)
    refine g_oe (fun h4 => ?_) (fun o3 h5 => ?_)
    · refine g_ifnullN F (tgt := 21) d_Hub_clientCount_15 (by decide) ?_
      refine g_iinc F (v := 1) (ls' := [(2, .int (x2 + 1)), (0, .ref (xa X r0)), (1, .int x1)]) d_Hub_clientCount_21 2 rfl (by decide) (by decide) rfl ?_
      refine g_goto F (tgt := 4) d_Hub_clientCount_24 (by decide) ?_
      exact g_sub [1, 2, 0] rfl (ih _ _ _)
    have h6 : ClientOK X o3 := ok_Hub_clientAt hr0 (h5 ▸ h3)
    refine g_ifnull F d_Hub_clientCount_15 ?_
    refine g_iinc F (v := 1) (ls' := [(1, .int (x1 + 1)), (0, .ref (xa X r0)), (2, .int x2)]) d_Hub_clientCount_18 1 rfl (by decide) (by decide) rfl ?_
    refine g_iinc F (v := 1) (ls' := [(2, .int (x2 + 1)), (1, .int (x1 + 1)), (0, .ref (xa X r0))]) d_Hub_clientCount_21 2 rfl (by decide) (by decide) rfl ?_
    refine g_goto F (tgt := 4) d_Hub_clientCount_24 (by decide) ?_
    exact g_sub [2, 1, 0] rfl (ih _ _ _)
set_option maxRecDepth 100000 in
set_option maxHeartbeats 4000000 in
theorem c_Hub_clientCount {X : CX} (l : Launch) (q : Nat) (hq : HubOK X q) (σ : Mem) : CT X l y_Hub_clientCount prog_4_method_13_code 3 (some .int) 1 vI [.ref (xa X q)] σ (f_Hub_clientCount q σ) := by
  refine CT_of (by decide +kernel) (Nat.le_of_ble_eq_true rfl) ?_
  intro p e s m args below meth c F hlk hr
  have F : FR p s m args c prog_4_method_13_code 3 "SensorHub$Hub" X := F
  show G X p l e (rmD 1) s m args below meth c 3 0 0 (QI X below args s vI) 0 [(0, .ref (xa X q))] [] σ _
  unfold f_Hub_clientCount
  refine g_iconst F (v := 0) d_Hub_clientCount_0 (by decide) ?_
  refine g_istore_n F (ls' := [(1, .int (0 : Int32)), (0, .ref (xa X q))]) d_Hub_clientCount_1 (by decide) rfl ?_
  refine g_iconst F (v := 0) d_Hub_clientCount_2 (by decide) ?_
  refine g_istore_n F (ls' := [(2, .int (0 : Int32)), (1, .int (0 : Int32)), (0, .ref (xa X q))]) d_Hub_clientCount_3 (by decide) rfl ?_
  refine g_sub [2, 1, 0] rfl (l_L_Hub_clientCount_4 F hlk hr _ hq _ (fun z4 σ5 => ?_) FU _ _ _)
  refine g_iload_n F d_Hub_clientCount_27 0 rfl ?_
  exact g_iret F hlk hr d_Hub_clientCount_28
def y_Hub_freeClientNumber : MethodName := ⟨"SensorHub$Hub", "freeClientNumber", "()I"⟩
theorem d_Hub_freeClientNumber_0 : decode prog_4_method_14_code 0 = .ok (.iconst 0, 1) := by decide +kernel
theorem d_Hub_freeClientNumber_1 : decode prog_4_method_14_code 1 = .ok (.istore_n 1, 1) := by decide +kernel
theorem d_Hub_freeClientNumber_2 : decode prog_4_method_14_code 2 = .ok (.iload_n 1, 1) := by decide +kernel
theorem d_Hub_freeClientNumber_3 : decode prog_4_method_14_code 3 = .ok (.bipush 8, 2) := by decide +kernel
theorem d_Hub_freeClientNumber_5 : decode prog_4_method_14_code 5 = .ok (.if_icmp .ge 19, 3) := by decide +kernel
theorem d_Hub_freeClientNumber_8 : decode prog_4_method_14_code 8 = .ok (.aload_n 0, 1) := by decide +kernel
theorem d_Hub_freeClientNumber_9 : decode prog_4_method_14_code 9 = .ok (.iload_n 1, 1) := by decide +kernel
theorem d_Hub_freeClientNumber_10 : decode prog_4_method_14_code 10 = .ok (.invokevirtual 130, 3) := by decide +kernel
theorem d_Hub_freeClientNumber_13 : decode prog_4_method_14_code 13 = .ok (.ifnonnull 5, 3) := by decide +kernel
theorem d_Hub_freeClientNumber_16 : decode prog_4_method_14_code 16 = .ok (.iload_n 1, 1) := by decide +kernel
theorem d_Hub_freeClientNumber_17 : decode prog_4_method_14_code 17 = .ok (.ireturn, 1) := by decide +kernel
theorem d_Hub_freeClientNumber_18 : decode prog_4_method_14_code 18 = .ok (.iinc 1 1, 3) := by decide +kernel
theorem d_Hub_freeClientNumber_21 : decode prog_4_method_14_code 21 = .ok (.goto (-19), 3) := by decide +kernel
theorem d_Hub_freeClientNumber_24 : decode prog_4_method_14_code 24 = .ok (.bipush (-9), 2) := by decide +kernel
theorem d_Hub_freeClientNumber_26 : decode prog_4_method_14_code 26 = .ok (.ireturn, 1) := by decide +kernel
def L_Hub_freeClientNumber_2 (r0 : Nat) (k : Mem → Option (Int32 × Mem)) : Nat → Int32 → Mem → Option (Int32 × Mem)
  | 0, _, _ => none
  | n + 1, x1, σ =>
    if (8 : Int32) ≤ x1 then
      k σ
    else
      bd (f_Hub_clientAt r0 x1 σ) fun r1 σ2 =>
      oe r1 (
        some (x1, σ2)
      ) (fun o3 =>
        L_Hub_freeClientNumber_2 r0 k n (x1 + 1) σ2
      )
def f_Hub_freeClientNumber (q : Nat) (σ : Mem) : Option (Int32 × Mem) :=
  L_Hub_freeClientNumber_2 q (fun σ4 =>
    some ((-9 : Int32), σ4)) FU (0 : Int32) σ
set_option maxRecDepth 100000 in
set_option maxHeartbeats 4000000 in
theorem l_L_Hub_freeClientNumber_2 {X : CX} {p : Program} {l : Launch} {e : Env} {s : State} {m : MethodId} {args : Array Value} {below : List Frame} {meth : Method} {c : Code} (F : FR p s m args c prog_4_method_14_code 2 "SensorHub$Hub" X) (hlk : meth.locks = false) (hr : meth.sig.returnType = some .int) (r0 : Nat) (hr0 : HubOK X r0) (k : Mem → Option (Int32 × Mem)) (hk : ∀  (σ : Mem), G X p l e (rmD 1) s m args below meth c 2 0 0 (QI X below args s vI) 24 [] [] σ (k σ)) : ∀ (n : Nat) (x1 : Int32) (σ : Mem), G X p l e (rmD 1) s m args below meth c 2 0 0 (QI X below args s vI) 2 [(0, .ref (xa X r0)), (1, .int x1)] [] σ (L_Hub_freeClientNumber_2 r0 k n x1 σ) := by
  intro n
  induction n with
  | zero => intros; exact g_no
  | succ n ih =>
    intro x1 σ
    unfold L_Hub_freeClientNumber_2
    refine g_iload_n F d_Hub_freeClientNumber_2 1 rfl ?_
    refine g_bipush F (v := 8) d_Hub_freeClientNumber_3 (by decide) ?_
    refine g_icmp_ge F (tgt := 24) d_Hub_freeClientNumber_5 (by decide) (fun h1 => ?_) (fun h2 => ?_)
    · exact g_sub [] rfl (hk  _)
    refine g_aload_n F d_Hub_freeClientNumber_8 0 rfl ?_
    refine g_iload_n F d_Hub_freeClientNumber_9 1 rfl ?_
    refine g_callV F (dp := 0) (ci := 2) (As := [.int x1]) (c_Hub_clientAt l _ _ hr0 _) cv_2_130 hr0.1 rfl rfl rfl (Nat.le_of_ble_eq_true rfl) ⟨Nat.le_of_ble_eq_true rfl, Nat.le_of_ble_eq_true rfl⟩ ⟨Nat.zero_le _, Nat.zero_le _⟩ d_Hub_freeClientNumber_10 (fun r1 σ2 h3 => ?_)
    refine g_oe (fun h4 => ?_) (fun o3 h5 => ?_)
    · refine g_ifnonnullN F d_Hub_freeClientNumber_13 ?_
      refine g_iload_n F d_Hub_freeClientNumber_16 1 rfl ?_
      exact g_iret F hlk hr d_Hub_freeClientNumber_17
    have h6 : ClientOK X o3 := ok_Hub_clientAt hr0 (h5 ▸ h3)
    refine g_ifnonnull F (tgt := 18) d_Hub_freeClientNumber_13 (by decide) ?_
    refine g_iinc F (v := 1) (ls' := [(1, .int (x1 + 1)), (0, .ref (xa X r0))]) d_Hub_freeClientNumber_18 1 rfl (by decide) (by decide) rfl ?_
    refine g_goto F (tgt := 2) d_Hub_freeClientNumber_21 (by decide) ?_
    exact g_sub [1, 0] rfl (ih _ _)
set_option maxRecDepth 100000 in
set_option maxHeartbeats 4000000 in
theorem c_Hub_freeClientNumber {X : CX} (l : Launch) (q : Nat) (hq : HubOK X q) (σ : Mem) : CT X l y_Hub_freeClientNumber prog_4_method_14_code 2 (some .int) 1 vI [.ref (xa X q)] σ (f_Hub_freeClientNumber q σ) := by
  refine CT_of (by decide +kernel) (Nat.le_of_ble_eq_true rfl) ?_
  intro p e s m args below meth c F hlk hr
  have F : FR p s m args c prog_4_method_14_code 2 "SensorHub$Hub" X := F
  show G X p l e (rmD 1) s m args below meth c 2 0 0 (QI X below args s vI) 0 [(0, .ref (xa X q))] [] σ _
  unfold f_Hub_freeClientNumber
  refine g_iconst F (v := 0) d_Hub_freeClientNumber_0 (by decide) ?_
  refine g_istore_n F (ls' := [(1, .int (0 : Int32)), (0, .ref (xa X q))]) d_Hub_freeClientNumber_1 (by decide) rfl ?_
  refine g_sub [1, 0] rfl (l_L_Hub_freeClientNumber_2 F hlk hr _ hq _ (fun σ4 => ?_) FU _ _)
  refine g_bipush F (v := (-9)) d_Hub_freeClientNumber_24 (by decide) ?_
  exact g_iret F hlk hr d_Hub_freeClientNumber_26
def y_Hub_demandAtMost : MethodName := ⟨"SensorHub$Hub", "demandAtMost", "(II)V"⟩
theorem d_Hub_demandAtMost_0 : decode prog_4_method_19_code 0 = .ok (.aload_n 0, 1) := by decide +kernel
theorem d_Hub_demandAtMost_1 : decode prog_4_method_19_code 1 = .ok (.iload_n 1, 1) := by decide +kernel
theorem d_Hub_demandAtMost_2 : decode prog_4_method_19_code 2 = .ok (.invokevirtual 101, 3) := by decide +kernel
theorem d_Hub_demandAtMost_5 : decode prog_4_method_19_code 5 = .ok (.astore_n 3, 1) := by decide +kernel
theorem d_Hub_demandAtMost_6 : decode prog_4_method_19_code 6 = .ok (.aload_n 3, 1) := by decide +kernel
theorem d_Hub_demandAtMost_7 : decode prog_4_method_19_code 7 = .ok (.ifnull 8, 3) := by decide +kernel
theorem d_Hub_demandAtMost_10 : decode prog_4_method_19_code 10 = .ok (.aload_n 3, 1) := by decide +kernel
theorem d_Hub_demandAtMost_11 : decode prog_4_method_19_code 11 = .ok (.iload_n 2, 1) := by decide +kernel
theorem d_Hub_demandAtMost_12 : decode prog_4_method_19_code 12 = .ok (.invokevirtual 175, 3) := by decide +kernel
theorem d_Hub_demandAtMost_15 : decode prog_4_method_19_code 15 = .ok (.return_, 1) := by decide +kernel
theorem cv_2_175 : CSV "SensorHub$Hub" 175 y_Sen_demandAtMost prog_6_method_6_code 2 none 1 := ⟨gw_I 547 (by decide +kernel) rfl, gw_I 548 (by decide +kernel) rfl, gw_I 549 (by decide +kernel) rfl, gw_I 74 (by decide +kernel) rfl, gw_I 550 (by decide +kernel) rfl, ⟨by decide +kernel, by decide +kernel⟩, by decide +kernel⟩
def f_Hub_demandAtMost (q : Nat) (p1 : Int32) (p2 : Int32) (σ : Mem) : Option (Unit × Mem) :=
  bd (f_Hub_sensorAt q p1 σ) fun r1 σ2 =>
  oe r1 (
    some ((), σ2)
  ) (fun o3 =>
    bd (f_Sen_demandAtMost o3 p2 σ2) fun _ σ5 =>
    some ((), σ5)
  )
set_option maxRecDepth 100000 in
set_option maxHeartbeats 4000000 in
theorem c_Hub_demandAtMost {X : CX} (l : Launch) (q : Nat) (p1 : Int32) (p2 : Int32) (hq : HubOK X q) (σ : Mem) : CT X l y_Hub_demandAtMost prog_4_method_19_code 4 none 1 vU [.ref (xa X q), .int p1, .int p2] σ (f_Hub_demandAtMost q p1 p2 σ) := by
  refine CT_of (by decide +kernel) (Nat.le_of_ble_eq_true rfl) ?_
  intro p e s m args below meth c F hlk hr
  have F : FR p s m args c prog_4_method_19_code 4 "SensorHub$Hub" X := F
  show G X p l e (rmD 1) s m args below meth c 4 0 0 (QI X below args s vU) 0 [(0, .ref (xa X q)), (1, .int p1), (2, .int p2)] [] σ _
  unfold f_Hub_demandAtMost
  refine g_aload_n F d_Hub_demandAtMost_0 0 rfl ?_
  refine g_iload_n F d_Hub_demandAtMost_1 1 rfl ?_
  refine g_callV F (dp := 0) (ci := 2) (As := [.int p1]) (c_Hub_sensorAt l _ _ hq _) cv_2_101 hq.1 rfl rfl rfl (Nat.le_of_ble_eq_true rfl) ⟨Nat.le_of_ble_eq_true rfl, Nat.le_of_ble_eq_true rfl⟩ ⟨Nat.zero_le _, Nat.zero_le _⟩ d_Hub_demandAtMost_2 (fun r1 σ2 h1 => ?_)
  refine g_oe (fun h2 => ?_) (fun o3 h3 => ?_)
  · refine g_astore_nN F (ls' := [(3, .null), (0, .ref (xa X q)), (1, .int p1), (2, .int p2)]) d_Hub_demandAtMost_5 (by decide) rfl ?_
    refine g_aload_nN F d_Hub_demandAtMost_6 0 rfl ?_
    refine g_ifnullN F (tgt := 15) d_Hub_demandAtMost_7 (by decide) ?_
    exact g_vret F hlk hr d_Hub_demandAtMost_15
  have h4 : SensorOK X o3 := ok_Hub_sensorAt hq (h3 ▸ h1)
  refine g_astore_n F (ls' := [(3, .ref (xa X o3)), (0, .ref (xa X q)), (1, .int p1), (2, .int p2)]) d_Hub_demandAtMost_5 (by decide) rfl ?_
  refine g_aload_n F d_Hub_demandAtMost_6 0 rfl ?_
  refine g_ifnull F d_Hub_demandAtMost_7 ?_
  refine g_aload_n F d_Hub_demandAtMost_10 0 rfl ?_
  refine g_iload_n F d_Hub_demandAtMost_11 3 rfl ?_
  refine g_callV F (dp := 0) (ci := 4) (As := [.int p2]) (c_Sen_demandAtMost l _ _ h4 _) cv_2_175 h4.1 rfl rfl rfl (Nat.le_of_ble_eq_true rfl) ⟨Nat.le_of_ble_eq_true rfl, Nat.le_of_ble_eq_true rfl⟩ ⟨Nat.zero_le _, Nat.zero_le _⟩ d_Hub_demandAtMost_12 (fun _ σ5 h5 => ?_)
  exact g_vret F hlk hr d_Hub_demandAtMost_15
def y_Hub_setDemands : MethodName := ⟨"SensorHub$Hub", "setDemands", "()V"⟩
theorem d_Hub_setDemands_0 : decode prog_4_method_18_code 0 = .ok (.iconst 0, 1) := by decide +kernel
theorem d_Hub_setDemands_1 : decode prog_4_method_18_code 1 = .ok (.istore_n 1, 1) := by decide +kernel
theorem d_Hub_setDemands_2 : decode prog_4_method_18_code 2 = .ok (.iload_n 1, 1) := by decide +kernel
theorem d_Hub_setDemands_3 : decode prog_4_method_18_code 3 = .ok (.bipush 8, 2) := by decide +kernel
theorem d_Hub_setDemands_5 : decode prog_4_method_18_code 5 = .ok (.if_icmp .ge 25, 3) := by decide +kernel
theorem d_Hub_setDemands_8 : decode prog_4_method_18_code 8 = .ok (.aload_n 0, 1) := by decide +kernel
theorem d_Hub_setDemands_9 : decode prog_4_method_18_code 9 = .ok (.iload_n 1, 1) := by decide +kernel
theorem d_Hub_setDemands_10 : decode prog_4_method_18_code 10 = .ok (.invokevirtual 101, 3) := by decide +kernel
theorem d_Hub_setDemands_13 : decode prog_4_method_18_code 13 = .ok (.astore_n 2, 1) := by decide +kernel
theorem d_Hub_setDemands_14 : decode prog_4_method_18_code 14 = .ok (.aload_n 2, 1) := by decide +kernel
theorem d_Hub_setDemands_15 : decode prog_4_method_18_code 15 = .ok (.ifnull 9, 3) := by decide +kernel
theorem d_Hub_setDemands_18 : decode prog_4_method_18_code 18 = .ok (.aload_n 2, 1) := by decide +kernel
theorem d_Hub_setDemands_19 : decode prog_4_method_18_code 19 = .ok (.bipush (-9), 2) := by decide +kernel
theorem d_Hub_setDemands_21 : decode prog_4_method_18_code 21 = .ok (.putfield 162, 3) := by decide +kernel
theorem d_Hub_setDemands_24 : decode prog_4_method_18_code 24 = .ok (.iinc 1 1, 3) := by decide +kernel
theorem d_Hub_setDemands_27 : decode prog_4_method_18_code 27 = .ok (.goto (-25), 3) := by decide +kernel
theorem d_Hub_setDemands_30 : decode prog_4_method_18_code 30 = .ok (.iconst 0, 1) := by decide +kernel
theorem d_Hub_setDemands_31 : decode prog_4_method_18_code 31 = .ok (.istore_n 1, 1) := by decide +kernel
theorem d_Hub_setDemands_32 : decode prog_4_method_18_code 32 = .ok (.iload_n 1, 1) := by decide +kernel
theorem d_Hub_setDemands_33 : decode prog_4_method_18_code 33 = .ok (.bipush 8, 2) := by decide +kernel
theorem d_Hub_setDemands_35 : decode prog_4_method_18_code 35 = .ok (.if_icmp .ge 31, 3) := by decide +kernel
theorem d_Hub_setDemands_38 : decode prog_4_method_18_code 38 = .ok (.aload_n 0, 1) := by decide +kernel
theorem d_Hub_setDemands_39 : decode prog_4_method_18_code 39 = .ok (.iload_n 1, 1) := by decide +kernel
theorem d_Hub_setDemands_40 : decode prog_4_method_18_code 40 = .ok (.invokevirtual 130, 3) := by decide +kernel
theorem d_Hub_setDemands_43 : decode prog_4_method_18_code 43 = .ok (.astore_n 2, 1) := by decide +kernel
theorem d_Hub_setDemands_44 : decode prog_4_method_18_code 44 = .ok (.aload_n 2, 1) := by decide +kernel
theorem d_Hub_setDemands_45 : decode prog_4_method_18_code 45 = .ok (.ifnull 15, 3) := by decide +kernel
theorem d_Hub_setDemands_48 : decode prog_4_method_18_code 48 = .ok (.aload_n 0, 1) := by decide +kernel
theorem d_Hub_setDemands_49 : decode prog_4_method_18_code 49 = .ok (.aload_n 2, 1) := by decide +kernel
theorem d_Hub_setDemands_50 : decode prog_4_method_18_code 50 = .ok (.getfield 149, 3) := by decide +kernel
theorem d_Hub_setDemands_53 : decode prog_4_method_18_code 53 = .ok (.aload_n 2, 1) := by decide +kernel
theorem d_Hub_setDemands_54 : decode prog_4_method_18_code 54 = .ok (.getfield 152, 3) := by decide +kernel
theorem d_Hub_setDemands_57 : decode prog_4_method_18_code 57 = .ok (.invokevirtual 165, 3) := by decide +kernel
theorem d_Hub_setDemands_60 : decode prog_4_method_18_code 60 = .ok (.iinc 1 1, 3) := by decide +kernel
theorem d_Hub_setDemands_63 : decode prog_4_method_18_code 63 = .ok (.goto (-31), 3) := by decide +kernel
theorem d_Hub_setDemands_66 : decode prog_4_method_18_code 66 = .ok (.bipush 7, 2) := by decide +kernel
theorem d_Hub_setDemands_68 : decode prog_4_method_18_code 68 = .ok (.istore_n 1, 1) := by decide +kernel
theorem d_Hub_setDemands_69 : decode prog_4_method_18_code 69 = .ok (.iload_n 1, 1) := by decide +kernel
theorem d_Hub_setDemands_70 : decode prog_4_method_18_code 70 = .ok (.ifCond .lt 68, 3) := by decide +kernel
theorem d_Hub_setDemands_73 : decode prog_4_method_18_code 73 = .ok (.aload_n 0, 1) := by decide +kernel
theorem d_Hub_setDemands_74 : decode prog_4_method_18_code 74 = .ok (.iload_n 1, 1) := by decide +kernel
theorem d_Hub_setDemands_75 : decode prog_4_method_18_code 75 = .ok (.invokevirtual 101, 3) := by decide +kernel
theorem d_Hub_setDemands_78 : decode prog_4_method_18_code 78 = .ok (.astore_n 2, 1) := by decide +kernel
theorem d_Hub_setDemands_79 : decode prog_4_method_18_code 79 = .ok (.aload_n 2, 1) := by decide +kernel
theorem d_Hub_setDemands_80 : decode prog_4_method_18_code 80 = .ok (.ifnull 52, 3) := by decide +kernel
theorem d_Hub_setDemands_83 : decode prog_4_method_18_code 83 = .ok (.aload_n 2, 1) := by decide +kernel
theorem d_Hub_setDemands_84 : decode prog_4_method_18_code 84 = .ok (.getfield 104, 3) := by decide +kernel
theorem d_Hub_setDemands_87 : decode prog_4_method_18_code 87 = .ok (.iconst 4, 1) := by decide +kernel
theorem d_Hub_setDemands_88 : decode prog_4_method_18_code 88 = .ok (.if_icmp .eq 44, 3) := by decide +kernel
theorem d_Hub_setDemands_91 : decode prog_4_method_18_code 91 = .ok (.aload_n 2, 1) := by decide +kernel
theorem d_Hub_setDemands_92 : decode prog_4_method_18_code 92 = .ok (.getfield 162, 3) := by decide +kernel
theorem d_Hub_setDemands_95 : decode prog_4_method_18_code 95 = .ok (.bipush (-9), 2) := by decide +kernel
theorem d_Hub_setDemands_97 : decode prog_4_method_18_code 97 = .ok (.if_icmp .eq 35, 3) := by decide +kernel
theorem d_Hub_setDemands_100 : decode prog_4_method_18_code 100 = .ok (.aload_n 0, 1) := by decide +kernel
theorem d_Hub_setDemands_101 : decode prog_4_method_18_code 101 = .ok (.aload_n 2, 1) := by decide +kernel
theorem d_Hub_setDemands_102 : decode prog_4_method_18_code 102 = .ok (.getfield 169, 3) := by decide +kernel
theorem d_Hub_setDemands_105 : decode prog_4_method_18_code 105 = .ok (.aload_n 2, 1) := by decide +kernel
theorem d_Hub_setDemands_106 : decode prog_4_method_18_code 106 = .ok (.getfield 162, 3) := by decide +kernel
theorem d_Hub_setDemands_109 : decode prog_4_method_18_code 109 = .ok (.invokevirtual 165, 3) := by decide +kernel
theorem d_Hub_setDemands_112 : decode prog_4_method_18_code 112 = .ok (.aload_n 2, 1) := by decide +kernel
theorem d_Hub_setDemands_113 : decode prog_4_method_18_code 113 = .ok (.getfield 104, 3) := by decide +kernel
theorem d_Hub_setDemands_116 : decode prog_4_method_18_code 116 = .ok (.iconst 3, 1) := by decide +kernel
theorem d_Hub_setDemands_117 : decode prog_4_method_18_code 117 = .ok (.if_icmp .eq 15, 3) := by decide +kernel
theorem d_Hub_setDemands_120 : decode prog_4_method_18_code 120 = .ok (.aload_n 0, 1) := by decide +kernel
theorem d_Hub_setDemands_121 : decode prog_4_method_18_code 121 = .ok (.aload_n 2, 1) := by decide +kernel
theorem d_Hub_setDemands_122 : decode prog_4_method_18_code 122 = .ok (.getfield 172, 3) := by decide +kernel
theorem d_Hub_setDemands_125 : decode prog_4_method_18_code 125 = .ok (.aload_n 2, 1) := by decide +kernel
theorem d_Hub_setDemands_126 : decode prog_4_method_18_code 126 = .ok (.getfield 162, 3) := by decide +kernel
theorem d_Hub_setDemands_129 : decode prog_4_method_18_code 129 = .ok (.invokevirtual 165, 3) := by decide +kernel
theorem d_Hub_setDemands_132 : decode prog_4_method_18_code 132 = .ok (.iinc 1 (-1), 3) := by decide +kernel
theorem d_Hub_setDemands_135 : decode prog_4_method_18_code 135 = .ok (.goto (-66), 3) := by decide +kernel
theorem d_Hub_setDemands_138 : decode prog_4_method_18_code 138 = .ok (.return_, 1) := by decide +kernel
theorem fw_2_162 : FW "SensorHub$Hub" 162 4 10 .int := ⟨"SensorHub$Sensor", T_4, 18, rfl, by decide, rfl, gw_I 167 (by decide +kernel) rfl, rfl, by decide +kernel⟩
theorem fs_2_149 : FS "SensorHub$Hub" 149 0 1 := ⟨"SensorHub$Client", T_0, 11, rfl, by decide, rfl, gw_I 229 (by decide +kernel) rfl⟩
theorem fs_2_152 : FS "SensorHub$Hub" 152 0 2 := ⟨"SensorHub$Client", T_0, 11, rfl, by decide, rfl, gw_I 232 (by decide +kernel) rfl⟩
theorem cv_2_165 : CSV "SensorHub$Hub" 165 y_Hub_demandAtMost prog_4_method_19_code 4 none 2 := ⟨gw_I 543 (by decide +kernel) rfl, gw_I 545 (by decide +kernel) rfl, gw_I 4 (by decide +kernel) rfl, gw_I 71 (by decide +kernel) rfl, gw_I 546 (by decide +kernel) rfl, ⟨by decide +kernel, by decide +kernel⟩, by decide +kernel⟩
theorem fs_2_162 : FS "SensorHub$Hub" 162 4 10 := ⟨"SensorHub$Sensor", T_4, 18, rfl, by decide, rfl, gw_I 167 (by decide +kernel) rfl⟩
theorem fs_2_169 : FS "SensorHub$Hub" 169 4 7 := ⟨"SensorHub$Sensor", T_4, 18, rfl, by decide, rfl, gw_I 159 (by decide +kernel) rfl⟩
theorem fs_2_172 : FS "SensorHub$Hub" 172 4 8 := ⟨"SensorHub$Sensor", T_4, 18, rfl, by decide, rfl, gw_I 161 (by decide +kernel) rfl⟩
def L_Hub_setDemands_2 (r0 : Nat) (k : Mem → Option (Unit × Mem)) : Nat → Int32 → Mem → Option (Unit × Mem)
  | 0, _, _ => none
  | n + 1, x1, σ =>
    if (8 : Int32) ≤ x1 then
      k σ
    else
      bd (f_Hub_sensorAt r0 x1 σ) fun r1 σ2 =>
      oe r1 (
        L_Hub_setDemands_2 r0 k n (x1 + 1) σ2
      ) (fun o3 =>
        lt (wr σ2 o3 10 (-9 : Int32)) fun σ4 =>
        L_Hub_setDemands_2 r0 k n (x1 + 1) σ4
      )
def L_Hub_setDemands_32 (r0 : Nat) (k : Mem → Option (Unit × Mem)) : Nat → Int32 → Mem → Option (Unit × Mem)
  | 0, _, _ => none
  | n + 1, x1, σ =>
    if (8 : Int32) ≤ x1 then
      k σ
    else
      bd (f_Hub_clientAt r0 x1 σ) fun r6 σ7 =>
      oe r6 (
        L_Hub_setDemands_32 r0 k n (x1 + 1) σ7
      ) (fun o8 =>
        bd (f_Hub_demandAtMost r0 (σ7 o8 1) (σ7 o8 2) σ7) fun _ σ10 =>
        L_Hub_setDemands_32 r0 k n (x1 + 1) σ10
      )
def L_Hub_setDemands_69 (r0 : Nat) (k : Mem → Option (Unit × Mem)) : Nat → Int32 → Mem → Option (Unit × Mem)
  | 0, _, _ => none
  | n + 1, x1, σ =>
    if x1 < 0 then
      k σ
    else
      bd (f_Hub_sensorAt r0 x1 σ) fun r12 σ13 =>
      oe r12 (
        L_Hub_setDemands_69 r0 k n (x1 + (-1)) σ13
      ) (fun o14 =>
        if (σ13 o14 0) = (4 : Int32) then
          L_Hub_setDemands_69 r0 k n (x1 + (-1)) σ13
        else
          if (σ13 o14 10) = (-9 : Int32) then
            L_Hub_setDemands_69 r0 k n (x1 + (-1)) σ13
          else
            bd (f_Hub_demandAtMost r0 (σ13 o14 7) (σ13 o14 10) σ13) fun _ σ16 =>
            if (σ16 o14 0) = (3 : Int32) then
              L_Hub_setDemands_69 r0 k n (x1 + (-1)) σ16
            else
              bd (f_Hub_demandAtMost r0 (σ16 o14 8) (σ16 o14 10) σ16) fun _ σ18 =>
              L_Hub_setDemands_69 r0 k n (x1 + (-1)) σ18
      )
def f_Hub_setDemands (q : Nat) (σ : Mem) : Option (Unit × Mem) :=
  L_Hub_setDemands_2 q (fun σ5 =>
    L_Hub_setDemands_32 q (fun σ11 =>
      L_Hub_setDemands_69 q (fun σ19 =>
        some ((), σ19)) FU (7 : Int32) σ11) FU (0 : Int32) σ5) FU (0 : Int32) σ
set_option maxRecDepth 100000 in
set_option maxHeartbeats 4000000 in
theorem l_L_Hub_setDemands_2 {X : CX} {p : Program} {l : Launch} {e : Env} {s : State} {m : MethodId} {args : Array Value} {below : List Frame} {meth : Method} {c : Code} (F : FR p s m args c prog_4_method_18_code 3 "SensorHub$Hub" X) (hlk : meth.locks = false) (hr : meth.sig.returnType = none) (r0 : Nat) (hr0 : HubOK X r0) (k : Mem → Option (Unit × Mem)) (hk : ∀  (σ : Mem), G X p l e (rmD 2) s m args below meth c 3 0 0 (QI X below args s vU) 30 [(0, .ref (xa X r0))] [] σ (k σ)) : ∀ (n : Nat) (x1 : Int32) (σ : Mem), G X p l e (rmD 2) s m args below meth c 3 0 0 (QI X below args s vU) 2 [(0, .ref (xa X r0)), (1, .int x1)] [] σ (L_Hub_setDemands_2 r0 k n x1 σ) := by
  intro n
  induction n with
  | zero => intros; exact g_no
  | succ n ih =>
    intro x1 σ
    unfold L_Hub_setDemands_2
    refine g_iload_n F d_Hub_setDemands_2 1 rfl ?_
    refine g_bipush F (v := 8) d_Hub_setDemands_3 (by decide) ?_
    refine g_icmp_ge F (tgt := 30) d_Hub_setDemands_5 (by decide) (fun h1 => ?_) (fun h2 => ?_)
    · exact g_sub [0] rfl (hk  _)
    refine g_aload_n F d_Hub_setDemands_8 0 rfl ?_
    refine g_iload_n F d_Hub_setDemands_9 1 rfl ?_
    refine g_callV F (dp := 0) (ci := 2) (As := [.int x1]) (c_Hub_sensorAt l _ _ hr0 _) cv_2_101 hr0.1 rfl rfl rfl (Nat.le_of_ble_eq_true rfl) ⟨Nat.le_of_ble_eq_true rfl, Nat.le_of_ble_eq_true rfl⟩ ⟨Nat.zero_le _, Nat.zero_le _⟩ d_Hub_setDemands_10 (fun r1 σ2 h3 => ?_)
    refine g_oe (fun h4 => ?_) (fun o3 h5 => ?_)
    · refine g_astore_nN F (ls' := [(2, .null), (0, .ref (xa X r0)), (1, .int x1)]) d_Hub_setDemands_13 (by decide) rfl ?_
      refine g_aload_nN F d_Hub_setDemands_14 0 rfl ?_
      refine g_ifnullN F (tgt := 24) d_Hub_setDemands_15 (by decide) ?_
      refine g_iinc F (v := 1) (ls' := [(1, .int (x1 + 1)), (2, .null), (0, .ref (xa X r0))]) d_Hub_setDemands_24 2 rfl (by decide) (by decide) rfl ?_
      refine g_goto F (tgt := 2) d_Hub_setDemands_27 (by decide) ?_
      exact g_sub [2, 0] rfl (ih _ _)
    have h6 : SensorOK X o3 := ok_Hub_sensorAt hr0 (h5 ▸ h3)
    refine g_astore_n F (ls' := [(2, .ref (xa X o3)), (0, .ref (xa X r0)), (1, .int x1)]) d_Hub_setDemands_13 (by decide) rfl ?_
    refine g_aload_n F d_Hub_setDemands_14 0 rfl ?_
    refine g_ifnull F d_Hub_setDemands_15 ?_
    refine g_aload_n F d_Hub_setDemands_18 0 rfl ?_
    refine g_bipush F (v := (-9)) d_Hub_setDemands_19 (by decide) ?_
    refine g_putI F fw_2_162 h6.1 rfl d_Hub_setDemands_21 ?_
    refine g_ltM (fun σ4 _ => ?_)
    refine g_iinc F (v := 1) (ls' := [(1, .int (x1 + 1)), (2, .ref (xa X o3)), (0, .ref (xa X r0))]) d_Hub_setDemands_24 2 rfl (by decide) (by decide) rfl ?_
    refine g_goto F (tgt := 2) d_Hub_setDemands_27 (by decide) ?_
    exact g_sub [2, 0] rfl (ih _ _)
set_option maxRecDepth 100000 in
set_option maxHeartbeats 4000000 in
theorem l_L_Hub_setDemands_32 {X : CX} {p : Program} {l : Launch} {e : Env} {s : State} {m : MethodId} {args : Array Value} {below : List Frame} {meth : Method} {c : Code} (F : FR p s m args c prog_4_method_18_code 3 "SensorHub$Hub" X) (hlk : meth.locks = false) (hr : meth.sig.returnType = none) (r0 : Nat) (hr0 : HubOK X r0) (k : Mem → Option (Unit × Mem)) (hk : ∀  (σ : Mem), G X p l e (rmD 2) s m args below meth c 3 0 0 (QI X below args s vU) 66 [(0, .ref (xa X r0))] [] σ (k σ)) : ∀ (n : Nat) (x1 : Int32) (σ : Mem), G X p l e (rmD 2) s m args below meth c 3 0 0 (QI X below args s vU) 32 [(0, .ref (xa X r0)), (1, .int x1)] [] σ (L_Hub_setDemands_32 r0 k n x1 σ) := by
  intro n
  induction n with
  | zero => intros; exact g_no
  | succ n ih =>
    intro x1 σ
    unfold L_Hub_setDemands_32
    refine g_iload_n F d_Hub_setDemands_32 1 rfl ?_
    refine g_bipush F (v := 8) d_Hub_setDemands_33 (by decide) ?_
    refine g_icmp_ge F (tgt := 66) d_Hub_setDemands_35 (by decide) (fun h7 => ?_) (fun h8 => ?_)
    · exact g_sub [0] rfl (hk  _)
    refine g_aload_n F d_Hub_setDemands_38 0 rfl ?_
    refine g_iload_n F d_Hub_setDemands_39 1 rfl ?_
    refine g_callV F (dp := 0) (ci := 2) (As := [.int x1]) (c_Hub_clientAt l _ _ hr0 _) cv_2_130 hr0.1 rfl rfl rfl (Nat.le_of_ble_eq_true rfl) ⟨Nat.le_of_ble_eq_true rfl, Nat.le_of_ble_eq_true rfl⟩ ⟨Nat.zero_le _, Nat.zero_le _⟩ d_Hub_setDemands_40 (fun r6 σ7 h9 => ?_)
    refine g_oe (fun h10 => ?_) (fun o8 h11 => ?_)
    · refine g_astore_nN F (ls' := [(2, .null), (0, .ref (xa X r0)), (1, .int x1)]) d_Hub_setDemands_43 (by decide) rfl ?_
      refine g_aload_nN F d_Hub_setDemands_44 0 rfl ?_
      refine g_ifnullN F (tgt := 60) d_Hub_setDemands_45 (by decide) ?_
      refine g_iinc F (v := 1) (ls' := [(1, .int (x1 + 1)), (2, .null), (0, .ref (xa X r0))]) d_Hub_setDemands_60 2 rfl (by decide) (by decide) rfl ?_
      refine g_goto F (tgt := 32) d_Hub_setDemands_63 (by decide) ?_
      exact g_sub [2, 0] rfl (ih _ _)
    have h12 : ClientOK X o8 := ok_Hub_clientAt hr0 (h11 ▸ h9)
    refine g_astore_n F (ls' := [(2, .ref (xa X o8)), (0, .ref (xa X r0)), (1, .int x1)]) d_Hub_setDemands_43 (by decide) rfl ?_
    refine g_aload_n F d_Hub_setDemands_44 0 rfl ?_
    refine g_ifnull F d_Hub_setDemands_45 ?_
    refine g_aload_n F d_Hub_setDemands_48 1 rfl ?_
    refine g_aload_n F d_Hub_setDemands_49 0 rfl ?_
    refine g_getI F fs_2_149 h12.1 rfl d_Hub_setDemands_50 ?_
    refine g_aload_n F d_Hub_setDemands_53 0 rfl ?_
    refine g_getI F fs_2_152 h12.1 rfl d_Hub_setDemands_54 ?_
    refine g_callV F (dp := 1) (ci := 2) (As := [.int (σ7 o8 1), .int (σ7 o8 2)]) (c_Hub_demandAtMost l _ _ _ hr0 _) cv_2_165 hr0.1 rfl rfl rfl (Nat.le_of_ble_eq_true rfl) ⟨Nat.le_of_ble_eq_true rfl, Nat.le_of_ble_eq_true rfl⟩ ⟨Nat.zero_le _, Nat.zero_le _⟩ d_Hub_setDemands_57 (fun _ σ10 h13 => ?_)
    refine g_iinc F (v := 1) (ls' := [(1, .int (x1 + 1)), (2, .ref (xa X o8)), (0, .ref (xa X r0))]) d_Hub_setDemands_60 2 rfl (by decide) (by decide) rfl ?_
    refine g_goto F (tgt := 32) d_Hub_setDemands_63 (by decide) ?_
    exact g_sub [2, 0] rfl (ih _ _)
set_option maxRecDepth 100000 in
set_option maxHeartbeats 4000000 in
theorem l_L_Hub_setDemands_69 {X : CX} {p : Program} {l : Launch} {e : Env} {s : State} {m : MethodId} {args : Array Value} {below : List Frame} {meth : Method} {c : Code} (F : FR p s m args c prog_4_method_18_code 3 "SensorHub$Hub" X) (hlk : meth.locks = false) (hr : meth.sig.returnType = none) (r0 : Nat) (hr0 : HubOK X r0) (k : Mem → Option (Unit × Mem)) (hk : ∀  (σ : Mem), G X p l e (rmD 2) s m args below meth c 3 0 0 (QI X below args s vU) 138 [] [] σ (k σ)) : ∀ (n : Nat) (x1 : Int32) (σ : Mem), G X p l e (rmD 2) s m args below meth c 3 0 0 (QI X below args s vU) 69 [(0, .ref (xa X r0)), (1, .int x1)] [] σ (L_Hub_setDemands_69 r0 k n x1 σ) := by
  intro n
  induction n with
  | zero => intros; exact g_no
  | succ n ih =>
    intro x1 σ
    unfold L_Hub_setDemands_69
    refine g_iload_n F d_Hub_setDemands_69 1 rfl ?_
    refine g_if_lt F (tgt := 138) d_Hub_setDemands_70 (by decide) (fun h14 => ?_) (fun h15 => ?_)
    · exact g_sub [] rfl (hk  _)
    refine g_aload_n F d_Hub_setDemands_73 0 rfl ?_
    refine g_iload_n F d_Hub_setDemands_74 1 rfl ?_
    refine g_callV F (dp := 0) (ci := 2) (As := [.int x1]) (c_Hub_sensorAt l _ _ hr0 _) cv_2_101 hr0.1 rfl rfl rfl (Nat.le_of_ble_eq_true rfl) ⟨Nat.le_of_ble_eq_true rfl, Nat.le_of_ble_eq_true rfl⟩ ⟨Nat.zero_le _, Nat.zero_le _⟩ d_Hub_setDemands_75 (fun r12 σ13 h16 => ?_)
    refine g_oe (fun h17 => ?_) (fun o14 h18 => ?_)
    · refine g_astore_nN F (ls' := [(2, .null), (0, .ref (xa X r0)), (1, .int x1)]) d_Hub_setDemands_78 (by decide) rfl ?_
      refine g_aload_nN F d_Hub_setDemands_79 0 rfl ?_
      refine g_ifnullN F (tgt := 132) d_Hub_setDemands_80 (by decide) ?_
      refine g_iinc F (v := (-1)) (ls' := [(1, .int (x1 + (-1))), (2, .null), (0, .ref (xa X r0))]) d_Hub_setDemands_132 2 rfl (by decide) (by decide) rfl ?_
      refine g_goto F (tgt := 69) d_Hub_setDemands_135 (by decide) ?_
      exact g_sub [2, 0] rfl (ih _ _)
    have h19 : SensorOK X o14 := ok_Hub_sensorAt hr0 (h18 ▸ h16)
    refine g_astore_n F (ls' := [(2, .ref (xa X o14)), (0, .ref (xa X r0)), (1, .int x1)]) d_Hub_setDemands_78 (by decide) rfl ?_
    refine g_aload_n F d_Hub_setDemands_79 0 rfl ?_
    refine g_ifnull F d_Hub_setDemands_80 ?_
    refine g_aload_n F d_Hub_setDemands_83 0 rfl ?_
    refine g_getI F fs_2_104 h19.1 rfl d_Hub_setDemands_84 ?_
    refine g_iconst F (v := 4) d_Hub_setDemands_87 (by decide) ?_
    refine g_icmp_eq F (tgt := 132) d_Hub_setDemands_88 (by decide) (fun h20 => ?_) (fun h21 => ?_)
    · refine g_iinc F (v := (-1)) (ls' := [(1, .int (x1 + (-1))), (2, .ref (xa X o14)), (0, .ref (xa X r0))]) d_Hub_setDemands_132 2 rfl (by decide) (by decide) rfl ?_
      refine g_goto F (tgt := 69) d_Hub_setDemands_135 (by decide) ?_
      exact g_sub [2, 0] rfl (ih _ _)
    refine g_aload_n F d_Hub_setDemands_91 0 rfl ?_
    refine g_getI F fs_2_162 h19.1 rfl d_Hub_setDemands_92 ?_
    refine g_bipush F (v := (-9)) d_Hub_setDemands_95 (by decide) ?_
    refine g_icmp_eq F (tgt := 132) d_Hub_setDemands_97 (by decide) (fun h22 => ?_) (fun h23 => ?_)
    · refine g_iinc F (v := (-1)) (ls' := [(1, .int (x1 + (-1))), (2, .ref (xa X o14)), (0, .ref (xa X r0))]) d_Hub_setDemands_132 2 rfl (by decide) (by decide) rfl ?_
      refine g_goto F (tgt := 69) d_Hub_setDemands_135 (by decide) ?_
      exact g_sub [2, 0] rfl (ih _ _)
    refine g_aload_n F d_Hub_setDemands_100 1 rfl ?_
    refine g_aload_n F d_Hub_setDemands_101 0 rfl ?_
    refine g_getI F fs_2_169 h19.1 rfl d_Hub_setDemands_102 ?_
    refine g_aload_n F d_Hub_setDemands_105 0 rfl ?_
    refine g_getI F fs_2_162 h19.1 rfl d_Hub_setDemands_106 ?_
    refine g_callV F (dp := 1) (ci := 2) (As := [.int (σ13 o14 7), .int (σ13 o14 10)]) (c_Hub_demandAtMost l _ _ _ hr0 _) cv_2_165 hr0.1 rfl rfl rfl (Nat.le_of_ble_eq_true rfl) ⟨Nat.le_of_ble_eq_true rfl, Nat.le_of_ble_eq_true rfl⟩ ⟨Nat.zero_le _, Nat.zero_le _⟩ d_Hub_setDemands_109 (fun _ σ16 h24 => ?_)
    refine g_aload_n F d_Hub_setDemands_112 0 rfl ?_
    refine g_getI F fs_2_104 h19.1 rfl d_Hub_setDemands_113 ?_
    refine g_iconst F (v := 3) d_Hub_setDemands_116 (by decide) ?_
    refine g_icmp_eq F (tgt := 132) d_Hub_setDemands_117 (by decide) (fun h25 => ?_) (fun h26 => ?_)
    · refine g_iinc F (v := (-1)) (ls' := [(1, .int (x1 + (-1))), (2, .ref (xa X o14)), (0, .ref (xa X r0))]) d_Hub_setDemands_132 2 rfl (by decide) (by decide) rfl ?_
      refine g_goto F (tgt := 69) d_Hub_setDemands_135 (by decide) ?_
      exact g_sub [2, 0] rfl (ih _ _)
    refine g_aload_n F d_Hub_setDemands_120 1 rfl ?_
    refine g_aload_n F d_Hub_setDemands_121 0 rfl ?_
    refine g_getI F fs_2_172 h19.1 rfl d_Hub_setDemands_122 ?_
    refine g_aload_n F d_Hub_setDemands_125 0 rfl ?_
    refine g_getI F fs_2_162 h19.1 rfl d_Hub_setDemands_126 ?_
    refine g_callV F (dp := 1) (ci := 2) (As := [.int (σ16 o14 8), .int (σ16 o14 10)]) (c_Hub_demandAtMost l _ _ _ hr0 _) cv_2_165 hr0.1 rfl rfl rfl (Nat.le_of_ble_eq_true rfl) ⟨Nat.le_of_ble_eq_true rfl, Nat.le_of_ble_eq_true rfl⟩ ⟨Nat.zero_le _, Nat.zero_le _⟩ d_Hub_setDemands_129 (fun _ σ18 h27 => ?_)
    refine g_iinc F (v := (-1)) (ls' := [(1, .int (x1 + (-1))), (2, .ref (xa X o14)), (0, .ref (xa X r0))]) d_Hub_setDemands_132 2 rfl (by decide) (by decide) rfl ?_
    refine g_goto F (tgt := 69) d_Hub_setDemands_135 (by decide) ?_
    exact g_sub [2, 0] rfl (ih _ _)
set_option maxRecDepth 100000 in
set_option maxHeartbeats 4000000 in
theorem c_Hub_setDemands {X : CX} (l : Launch) (q : Nat) (hq : HubOK X q) (σ : Mem) : CT X l y_Hub_setDemands prog_4_method_18_code 3 none 2 vU [.ref (xa X q)] σ (f_Hub_setDemands q σ) := by
  refine CT_of (by decide +kernel) (Nat.le_of_ble_eq_true rfl) ?_
  intro p e s m args below meth c F hlk hr
  have F : FR p s m args c prog_4_method_18_code 3 "SensorHub$Hub" X := F
  show G X p l e (rmD 2) s m args below meth c 3 0 0 (QI X below args s vU) 0 [(0, .ref (xa X q))] [] σ _
  unfold f_Hub_setDemands
  refine g_iconst F (v := 0) d_Hub_setDemands_0 (by decide) ?_
  refine g_istore_n F (ls' := [(1, .int (0 : Int32)), (0, .ref (xa X q))]) d_Hub_setDemands_1 (by decide) rfl ?_
  refine g_sub [1, 0] rfl (l_L_Hub_setDemands_2 F hlk hr _ hq _ (fun σ5 => ?_) FU _ _)
  refine g_iconst F (v := 0) d_Hub_setDemands_30 (by decide) ?_
  refine g_istore_n F (ls' := [(1, .int (0 : Int32)), (0, .ref (xa X q))]) d_Hub_setDemands_31 (by decide) rfl ?_
  refine g_sub [1, 0] rfl (l_L_Hub_setDemands_32 F hlk hr _ hq _ (fun σ11 => ?_) FU _ _)
  refine g_bipush F (v := 7) d_Hub_setDemands_66 (by decide) ?_
  refine g_istore_n F (ls' := [(1, .int (7 : Int32)), (0, .ref (xa X q))]) d_Hub_setDemands_68 (by decide) rfl ?_
  refine g_sub [1, 0] rfl (l_L_Hub_setDemands_69 F hlk hr _ hq _ (fun σ19 => ?_) FU _ _)
  exact g_vret F hlk hr d_Hub_setDemands_138
def y_Hub_periodFor : MethodName := ⟨"SensorHub$Hub", "periodFor", "(LSensorHub$Sensor;)I"⟩
theorem d_Hub_periodFor_0 : decode prog_4_method_21_code 0 = .ok (.aload_n 1, 1) := by decide +kernel
theorem d_Hub_periodFor_1 : decode prog_4_method_21_code 1 = .ok (.getfield 162, 3) := by decide +kernel
theorem d_Hub_periodFor_4 : decode prog_4_method_21_code 4 = .ok (.bipush (-9), 2) := by decide +kernel
theorem d_Hub_periodFor_6 : decode prog_4_method_21_code 6 = .ok (.if_icmp .ne 6, 3) := by decide +kernel
theorem d_Hub_periodFor_9 : decode prog_4_method_21_code 9 = .ok (.bipush (-9), 2) := by decide +kernel
theorem d_Hub_periodFor_11 : decode prog_4_method_21_code 11 = .ok (.ireturn, 1) := by decide +kernel
theorem d_Hub_periodFor_12 : decode prog_4_method_21_code 12 = .ok (.aload_n 1, 1) := by decide +kernel
theorem d_Hub_periodFor_13 : decode prog_4_method_21_code 13 = .ok (.getfield 104, 3) := by decide +kernel
theorem d_Hub_periodFor_16 : decode prog_4_method_21_code 16 = .ok (.iconst 4, 1) := by decide +kernel
theorem d_Hub_periodFor_17 : decode prog_4_method_21_code 17 = .ok (.if_icmp .ne 8, 3) := by decide +kernel
theorem d_Hub_periodFor_20 : decode prog_4_method_21_code 20 = .ok (.aload_n 1, 1) := by decide +kernel
theorem d_Hub_periodFor_21 : decode prog_4_method_21_code 21 = .ok (.invokevirtual 182, 3) := by decide +kernel
theorem d_Hub_periodFor_24 : decode prog_4_method_21_code 24 = .ok (.ireturn, 1) := by decide +kernel
theorem d_Hub_periodFor_25 : decode prog_4_method_21_code 25 = .ok (.aload_n 0, 1) := by decide +kernel
theorem d_Hub_periodFor_26 : decode prog_4_method_21_code 26 = .ok (.aload_n 1, 1) := by decide +kernel
theorem d_Hub_periodFor_27 : decode prog_4_method_21_code 27 = .ok (.getfield 111, 3) := by decide +kernel
theorem d_Hub_periodFor_30 : decode prog_4_method_21_code 30 = .ok (.invokevirtual 101, 3) := by decide +kernel
theorem d_Hub_periodFor_33 : decode prog_4_method_21_code 33 = .ok (.astore_n 2, 1) := by decide +kernel
theorem d_Hub_periodFor_34 : decode prog_4_method_21_code 34 = .ok (.aload_n 2, 1) := by decide +kernel
theorem d_Hub_periodFor_35 : decode prog_4_method_21_code 35 = .ok (.ifnonnull 8, 3) := by decide +kernel
theorem d_Hub_periodFor_38 : decode prog_4_method_21_code 38 = .ok (.bipush (-9), 2) := by decide +kernel
theorem d_Hub_periodFor_40 : decode prog_4_method_21_code 40 = .ok (.goto 7, 3) := by decide +kernel
theorem d_Hub_periodFor_43 : decode prog_4_method_21_code 43 = .ok (.aload_n 2, 1) := by decide +kernel
theorem d_Hub_periodFor_44 : decode prog_4_method_21_code 44 = .ok (.getfield 155, 3) := by decide +kernel
theorem d_Hub_periodFor_47 : decode prog_4_method_21_code 47 = .ok (.ireturn, 1) := by decide +kernel
theorem cv_2_182 : CSV "SensorHub$Hub" 182 y_Sen_greatestSupported prog_6_method_7_code 3 (some .int) 0 := ⟨gw_I 559 (by decide +kernel) rfl, gw_I 560 (by decide +kernel) rfl, gw_I 561 (by decide +kernel) rfl, gw_I 74 (by decide +kernel) rfl, gw_I 562 (by decide +kernel) rfl, ⟨by decide +kernel, by decide +kernel⟩, by decide +kernel⟩
theorem fs_2_155 : FS "SensorHub$Hub" 155 4 11 := ⟨"SensorHub$Sensor", T_4, 18, rfl, by decide, rfl, gw_I 170 (by decide +kernel) rfl⟩
def f_Hub_periodFor (q : Nat) (q1 : Nat) (σ : Mem) : Option (Int32 × Mem) :=
  if (σ q1 10) = (-9 : Int32) then
    some ((-9 : Int32), σ)
  else
    if (σ q1 0) = (4 : Int32) then
      bd (f_Sen_greatestSupported q1 σ) fun r1 σ2 =>
      some (r1, σ2)
    else
      bd (f_Hub_sensorAt q (σ q1 9) σ) fun r3 σ4 =>
      oe r3 (
        some ((-9 : Int32), σ4)
      ) (fun o5 =>
        some (σ4 o5 11, σ4)
      )
set_option maxRecDepth 100000 in
set_option maxHeartbeats 4000000 in
theorem c_Hub_periodFor {X : CX} (l : Launch) (q : Nat) (q1 : Nat) (hq : HubOK X q) (hq1 : SensorOK X q1) (σ : Mem) : CT X l y_Hub_periodFor prog_4_method_21_code 3 (some .int) 1 vI [.ref (xa X q), .ref (xa X q1)] σ (f_Hub_periodFor q q1 σ) := by
  refine CT_of (by decide +kernel) (Nat.le_of_ble_eq_true rfl) ?_
  intro p e s m args below meth c F hlk hr
  have F : FR p s m args c prog_4_method_21_code 3 "SensorHub$Hub" X := F
  show G X p l e (rmD 1) s m args below meth c 3 0 0 (QI X below args s vI) 0 [(0, .ref (xa X q)), (1, .ref (xa X q1))] [] σ _
  unfold f_Hub_periodFor
  refine g_aload_n F d_Hub_periodFor_0 1 rfl ?_
  refine g_getI F fs_2_162 hq1.1 rfl d_Hub_periodFor_1 ?_
  refine g_bipush F (v := (-9)) d_Hub_periodFor_4 (by decide) ?_
  refine g_icmp_ne F (tgt := 12) d_Hub_periodFor_6 (by decide) (fun h1 => ?_) (fun h2 => ?_)
  · refine g_bipush F (v := (-9)) d_Hub_periodFor_9 (by decide) ?_
    exact g_iret F hlk hr d_Hub_periodFor_11
  refine g_aload_n F d_Hub_periodFor_12 1 rfl ?_
  refine g_getI F fs_2_104 hq1.1 rfl d_Hub_periodFor_13 ?_
  refine g_iconst F (v := 4) d_Hub_periodFor_16 (by decide) ?_
  refine g_icmp_ne F (tgt := 25) d_Hub_periodFor_17 (by decide) (fun h3 => ?_) (fun h4 => ?_)
  · refine g_aload_n F d_Hub_periodFor_20 1 rfl ?_
    refine g_callV F (dp := 0) (ci := 4) (As := []) (c_Sen_greatestSupported l _ hq1 _) cv_2_182 hq1.1 rfl rfl rfl (Nat.le_of_ble_eq_true rfl) ⟨Nat.le_of_ble_eq_true rfl, Nat.le_of_ble_eq_true rfl⟩ ⟨Nat.zero_le _, Nat.zero_le _⟩ d_Hub_periodFor_21 (fun r1 σ2 h5 => ?_)
    exact g_iret F hlk hr d_Hub_periodFor_24
  refine g_aload_n F d_Hub_periodFor_25 0 rfl ?_
  refine g_aload_n F d_Hub_periodFor_26 1 rfl ?_
  refine g_getI F fs_2_111 hq1.1 rfl d_Hub_periodFor_27 ?_
  refine g_callV F (dp := 0) (ci := 2) (As := [.int (σ q1 9)]) (c_Hub_sensorAt l _ _ hq _) cv_2_101 hq.1 rfl rfl rfl (Nat.le_of_ble_eq_true rfl) ⟨Nat.le_of_ble_eq_true rfl, Nat.le_of_ble_eq_true rfl⟩ ⟨Nat.zero_le _, Nat.zero_le _⟩ d_Hub_periodFor_30 (fun r3 σ4 h6 => ?_)
  refine g_oe (fun h7 => ?_) (fun o5 h8 => ?_)
  · refine g_astore_nN F (ls' := [(2, .null), (0, .ref (xa X q)), (1, .ref (xa X q1))]) d_Hub_periodFor_33 (by decide) rfl ?_
    refine g_aload_nN F d_Hub_periodFor_34 0 rfl ?_
    refine g_ifnonnullN F d_Hub_periodFor_35 ?_
    refine g_bipush F (v := (-9)) d_Hub_periodFor_38 (by decide) ?_
    refine g_goto F (tgt := 47) d_Hub_periodFor_40 (by decide) ?_
    exact g_iret F hlk hr d_Hub_periodFor_47
  have h9 : SensorOK X o5 := ok_Hub_sensorAt hq (h8 ▸ h6)
  refine g_astore_n F (ls' := [(2, .ref (xa X o5)), (0, .ref (xa X q)), (1, .ref (xa X q1))]) d_Hub_periodFor_33 (by decide) rfl ?_
  refine g_aload_n F d_Hub_periodFor_34 0 rfl ?_
  refine g_ifnonnull F (tgt := 43) d_Hub_periodFor_35 (by decide) ?_
  refine g_aload_n F d_Hub_periodFor_43 0 rfl ?_
  refine g_getI F fs_2_155 h9.1 rfl d_Hub_periodFor_44 ?_
  exact g_iret F hlk hr d_Hub_periodFor_47
def y_Hub_setPeriods : MethodName := ⟨"SensorHub$Hub", "setPeriods", "()Z"⟩
theorem d_Hub_setPeriods_0 : decode prog_4_method_20_code 0 = .ok (.iconst 0, 1) := by decide +kernel
theorem d_Hub_setPeriods_1 : decode prog_4_method_20_code 1 = .ok (.istore_n 1, 1) := by decide +kernel
theorem d_Hub_setPeriods_2 : decode prog_4_method_20_code 2 = .ok (.iconst 0, 1) := by decide +kernel
theorem d_Hub_setPeriods_3 : decode prog_4_method_20_code 3 = .ok (.istore_n 2, 1) := by decide +kernel
theorem d_Hub_setPeriods_4 : decode prog_4_method_20_code 4 = .ok (.iload_n 2, 1) := by decide +kernel
theorem d_Hub_setPeriods_5 : decode prog_4_method_20_code 5 = .ok (.bipush 8, 2) := by decide +kernel
theorem d_Hub_setPeriods_7 : decode prog_4_method_20_code 7 = .ok (.if_icmp .ge 53, 3) := by decide +kernel
theorem d_Hub_setPeriods_10 : decode prog_4_method_20_code 10 = .ok (.aload_n 0, 1) := by decide +kernel
theorem d_Hub_setPeriods_11 : decode prog_4_method_20_code 11 = .ok (.iload_n 2, 1) := by decide +kernel
theorem d_Hub_setPeriods_12 : decode prog_4_method_20_code 12 = .ok (.invokevirtual 101, 3) := by decide +kernel
theorem d_Hub_setPeriods_15 : decode prog_4_method_20_code 15 = .ok (.astore_n 3, 1) := by decide +kernel
theorem d_Hub_setPeriods_16 : decode prog_4_method_20_code 16 = .ok (.aload_n 3, 1) := by decide +kernel
theorem d_Hub_setPeriods_17 : decode prog_4_method_20_code 17 = .ok (.ifnull 37, 3) := by decide +kernel
theorem d_Hub_setPeriods_20 : decode prog_4_method_20_code 20 = .ok (.aload_n 3, 1) := by decide +kernel
theorem d_Hub_setPeriods_21 : decode prog_4_method_20_code 21 = .ok (.getfield 155, 3) := by decide +kernel
theorem d_Hub_setPeriods_24 : decode prog_4_method_20_code 24 = .ok (.istore 4, 2) := by decide +kernel
theorem d_Hub_setPeriods_26 : decode prog_4_method_20_code 26 = .ok (.aload_n 3, 1) := by decide +kernel
theorem d_Hub_setPeriods_27 : decode prog_4_method_20_code 27 = .ok (.aload_n 0, 1) := by decide +kernel
theorem d_Hub_setPeriods_28 : decode prog_4_method_20_code 28 = .ok (.aload_n 3, 1) := by decide +kernel
theorem d_Hub_setPeriods_29 : decode prog_4_method_20_code 29 = .ok (.invokevirtual 178, 3) := by decide +kernel
theorem d_Hub_setPeriods_32 : decode prog_4_method_20_code 32 = .ok (.putfield 155, 3) := by decide +kernel
theorem d_Hub_setPeriods_35 : decode prog_4_method_20_code 35 = .ok (.aload_n 3, 1) := by decide +kernel
theorem d_Hub_setPeriods_36 : decode prog_4_method_20_code 36 = .ok (.getfield 104, 3) := by decide +kernel
theorem d_Hub_setPeriods_39 : decode prog_4_method_20_code 39 = .ok (.iconst 4, 1) := by decide +kernel
theorem d_Hub_setPeriods_40 : decode prog_4_method_20_code 40 = .ok (.if_icmp .ne 14, 3) := by decide +kernel
theorem d_Hub_setPeriods_43 : decode prog_4_method_20_code 43 = .ok (.aload_n 3, 1) := by decide +kernel
theorem d_Hub_setPeriods_44 : decode prog_4_method_20_code 44 = .ok (.getfield 155, 3) := by decide +kernel
theorem d_Hub_setPeriods_47 : decode prog_4_method_20_code 47 = .ok (.iload 4, 2) := by decide +kernel
theorem d_Hub_setPeriods_49 : decode prog_4_method_20_code 49 = .ok (.if_icmp .eq 5, 3) := by decide +kernel
theorem d_Hub_setPeriods_52 : decode prog_4_method_20_code 52 = .ok (.iconst 1, 1) := by decide +kernel
theorem d_Hub_setPeriods_53 : decode prog_4_method_20_code 53 = .ok (.istore_n 1, 1) := by decide +kernel
theorem d_Hub_setPeriods_54 : decode prog_4_method_20_code 54 = .ok (.iinc 2 1, 3) := by decide +kernel
theorem d_Hub_setPeriods_57 : decode prog_4_method_20_code 57 = .ok (.goto (-53), 3) := by decide +kernel
theorem d_Hub_setPeriods_60 : decode prog_4_method_20_code 60 = .ok (.iload_n 1, 1) := by decide +kernel
theorem d_Hub_setPeriods_61 : decode prog_4_method_20_code 61 = .ok (.ireturn, 1) := by decide +kernel
theorem cv_2_178 : CSV "SensorHub$Hub" 178 y_Hub_periodFor prog_4_method_21_code 3 (some .int) 1 := ⟨gw_I 555 (by decide +kernel) rfl, gw_I 557 (by decide +kernel) rfl, gw_I 6 (by decide +kernel) rfl, gw_I 71 (by decide +kernel) rfl, gw_I 558 (by decide +kernel) rfl, ⟨by decide +kernel, by decide +kernel⟩, by decide +kernel⟩
theorem fw_2_155 : FW "SensorHub$Hub" 155 4 11 .int := ⟨"SensorHub$Sensor", T_4, 18, rfl, by decide, rfl, gw_I 170 (by decide +kernel) rfl, rfl, by decide +kernel⟩
def L_Hub_setPeriods_4 (r0 : Nat) (k : Int32 → Mem → Option (Int32 × Mem)) : Nat → Int32 → Int32 → Mem → Option (Int32 × Mem)
  | 0, _, _, _ => none
  | n + 1, x1, x2, σ =>
    if (8 : Int32) ≤ x2 then
      k x1 σ
    else
      bd (f_Hub_sensorAt r0 x2 σ) fun r1 σ2 =>
      oe r1 (
        L_Hub_setPeriods_4 r0 k n x1 (x2 + 1) σ2
      ) (fun o3 =>
        lt (σ2 o3 11) fun v4 =>
        bd (f_Hub_periodFor r0 o3 σ2) fun r5 σ6 =>
        lt (wr σ6 o3 11 r5) fun σ7 =>
        if (σ7 o3 0) = (4 : Int32) then if (σ7 o3 11) = v4 then L_Hub_setPeriods_4 r0 k n x1 (x2 + 1) σ7 else L_Hub_setPeriods_4 r0 k n (1 : Int32) (x2 + 1) σ7 else L_Hub_setPeriods_4 r0 k n x1 (x2 + 1) σ7
      )
def f_Hub_setPeriods (q : Nat) (σ : Mem) : Option (Int32 × Mem) :=
  L_Hub_setPeriods_4 q (fun z8 σ9 =>
    if z8 &&& 1 = z8 then some (z8, σ9) else none) FU (0 : Int32) (0 : Int32) σ
set_option maxRecDepth 100000 in
set_option maxHeartbeats 4000000 in
theorem l_L_Hub_setPeriods_4 {X : CX} {p : Program} {l : Launch} {e : Env} {s : State} {m : MethodId} {args : Array Value} {below : List Frame} {meth : Method} {c : Code} (F : FR p s m args c prog_4_method_20_code 5 "SensorHub$Hub" X) (hlk : meth.locks = false) (hr : meth.sig.returnType = some .boolean) (r0 : Nat) (hr0 : HubOK X r0) (k : Int32 → Mem → Option (Int32 × Mem)) (hk : ∀ (x1 : Int32) (σ : Mem), G X p l e (rmD 2) s m args below meth c 5 0 0 (QI X below args s vI) 60 [(1, .int x1)] [] σ (k x1 σ)) : ∀ (n : Nat) (x1 : Int32) (x2 : Int32) (σ : Mem), G X p l e (rmD 2) s m args below meth c 5 0 0 (QI X below args s vI) 4 [(0, .ref (xa X r0)), (1, .int x1), (2, .int x2)] [] σ (L_Hub_setPeriods_4 r0 k n x1 x2 σ) := by
  intro n
  induction n with
  | zero => intros; exact g_no
  | succ n ih =>
    intro x1 x2 σ
    unfold L_Hub_setPeriods_4
    refine g_iload_n F d_Hub_setPeriods_4 2 rfl ?_
    refine g_bipush F (v := 8) d_Hub_setPeriods_5 (by decide) ?_
    refine g_icmp_ge F (tgt := 60) d_Hub_setPeriods_7 (by decide) (fun h1 => ?_) (fun h2 => ?_)
    · exact g_sub [1] rfl (hk _ _)
    refine g_aload_n F d_Hub_setPeriods_10 0 rfl ?_
    refine g_iload_n F d_Hub_setPeriods_11 2 rfl ?_
    refine g_callV F (dp := 0) (ci := 2) (As := [.int x2]) (c_Hub_sensorAt l _ _ hr0 _) cv_2_101 hr0.1 rfl rfl rfl (Nat.le_of_ble_eq_true rfl) ⟨Nat.le_of_ble_eq_true rfl, Nat.le_of_ble_eq_true rfl⟩ ⟨Nat.zero_le _, Nat.zero_le _⟩ d_Hub_setPeriods_12 (fun r1 σ2 h3 => ?_)
    refine g_oe (fun h4 => ?_) (fun o3 h5 => ?_)
    · refine g_astore_nN F (ls' := [(3, .null), (0, .ref (xa X r0)), (1, .int x1), (2, .int x2)]) d_Hub_setPeriods_15 (by decide) rfl ?_
      refine g_aload_nN F d_Hub_setPeriods_16 0 rfl ?_
      refine g_ifnullN F (tgt := 54) d_Hub_setPeriods_17 (by decide) ?_
      refine g_iinc F (v := 1) (ls' := [(2, .int (x2 + 1)), (3, .null), (0, .ref (xa X r0)), (1, .int x1)]) d_Hub_setPeriods_54 3 rfl (by decide) (by decide) rfl ?_
      refine g_goto F (tgt := 4) d_Hub_setPeriods_57 (by decide) ?_
      exact g_sub [2, 3, 0] rfl (ih _ _ _)
    have h6 : SensorOK X o3 := ok_Hub_sensorAt hr0 (h5 ▸ h3)
    refine g_astore_n F (ls' := [(3, .ref (xa X o3)), (0, .ref (xa X r0)), (1, .int x1), (2, .int x2)]) d_Hub_setPeriods_15 (by decide) rfl ?_
    refine g_aload_n F d_Hub_setPeriods_16 0 rfl ?_
    refine g_ifnull F d_Hub_setPeriods_17 ?_
    refine g_aload_n F d_Hub_setPeriods_20 0 rfl ?_
    refine g_getI F fs_2_155 h6.1 rfl d_Hub_setPeriods_21 ?_
    refine g_ltI (fun v4 _ => ?_)
    refine g_istore F (ls' := [(4, .int v4), (3, .ref (xa X o3)), (0, .ref (xa X r0)), (1, .int x1), (2, .int x2)]) d_Hub_setPeriods_24 (by decide) rfl ?_
    refine g_aload_n F d_Hub_setPeriods_26 1 rfl ?_
    refine g_aload_n F d_Hub_setPeriods_27 2 rfl ?_
    refine g_aload_n F d_Hub_setPeriods_28 1 rfl ?_
    refine g_callV F (dp := 1) (ci := 2) (As := [.ref (xa X o3)]) (c_Hub_periodFor l _ _ hr0 h6 _) cv_2_178 hr0.1 rfl rfl rfl (Nat.le_of_ble_eq_true rfl) ⟨Nat.le_of_ble_eq_true rfl, Nat.le_of_ble_eq_true rfl⟩ ⟨Nat.zero_le _, Nat.zero_le _⟩ d_Hub_setPeriods_29 (fun r5 σ6 h7 => ?_)
    refine g_putI F fw_2_155 h6.1 rfl d_Hub_setPeriods_32 ?_
    refine g_ltM (fun σ7 _ => ?_)
    refine g_aload_n F d_Hub_setPeriods_35 1 rfl ?_
    refine g_getI F fs_2_104 h6.1 rfl d_Hub_setPeriods_36 ?_
    refine g_iconst F (v := 4) d_Hub_setPeriods_39 (by decide) ?_
    refine g_icmp_ne F (tgt := 54) d_Hub_setPeriods_40 (by decide) (fun h8 => ?_) (fun h9 => ?_)
    · refine g_aload_n F d_Hub_setPeriods_43 1 rfl ?_
      refine g_getI F fs_2_155 h6.1 rfl d_Hub_setPeriods_44 ?_
      refine g_iload F d_Hub_setPeriods_47 0 rfl ?_
      refine g_icmp_eq F (tgt := 54) d_Hub_setPeriods_49 (by decide) (fun h10 => ?_) (fun h11 => ?_)
      · refine g_iinc F (v := 1) (ls' := [(2, .int (x2 + 1)), (4, .int v4), (3, .ref (xa X o3)), (0, .ref (xa X r0)), (1, .int x1)]) d_Hub_setPeriods_54 4 rfl (by decide) (by decide) rfl ?_
        refine g_goto F (tgt := 4) d_Hub_setPeriods_57 (by decide) ?_
        exact g_sub [3, 4, 0] rfl (ih _ _ _)
      refine g_iconst F (v := 1) d_Hub_setPeriods_52 (by decide) ?_
      refine g_istore_n F (ls' := [(1, .int (1 : Int32)), (4, .int v4), (3, .ref (xa X o3)), (0, .ref (xa X r0)), (2, .int x2)]) d_Hub_setPeriods_53 (by decide) rfl ?_
      refine g_iinc F (v := 1) (ls' := [(2, .int (x2 + 1)), (1, .int (1 : Int32)), (4, .int v4), (3, .ref (xa X o3)), (0, .ref (xa X r0))]) d_Hub_setPeriods_54 4 rfl (by decide) (by decide) rfl ?_
      refine g_goto F (tgt := 4) d_Hub_setPeriods_57 (by decide) ?_
      exact g_sub [4, 1, 0] rfl (ih _ _ _)
    refine g_iinc F (v := 1) (ls' := [(2, .int (x2 + 1)), (4, .int v4), (3, .ref (xa X o3)), (0, .ref (xa X r0)), (1, .int x1)]) d_Hub_setPeriods_54 4 rfl (by decide) (by decide) rfl ?_
    refine g_goto F (tgt := 4) d_Hub_setPeriods_57 (by decide) ?_
    exact g_sub [3, 4, 0] rfl (ih _ _ _)
set_option maxRecDepth 100000 in
set_option maxHeartbeats 4000000 in
theorem c_Hub_setPeriods {X : CX} (l : Launch) (q : Nat) (hq : HubOK X q) (σ : Mem) : CT X l y_Hub_setPeriods prog_4_method_20_code 5 (some .boolean) 2 vI [.ref (xa X q)] σ (f_Hub_setPeriods q σ) := by
  refine CT_of (by decide +kernel) (Nat.le_of_ble_eq_true rfl) ?_
  intro p e s m args below meth c F hlk hr
  have F : FR p s m args c prog_4_method_20_code 5 "SensorHub$Hub" X := F
  show G X p l e (rmD 2) s m args below meth c 5 0 0 (QI X below args s vI) 0 [(0, .ref (xa X q))] [] σ _
  unfold f_Hub_setPeriods
  refine g_iconst F (v := 0) d_Hub_setPeriods_0 (by decide) ?_
  refine g_istore_n F (ls' := [(1, .int (0 : Int32)), (0, .ref (xa X q))]) d_Hub_setPeriods_1 (by decide) rfl ?_
  refine g_iconst F (v := 0) d_Hub_setPeriods_2 (by decide) ?_
  refine g_istore_n F (ls' := [(2, .int (0 : Int32)), (1, .int (0 : Int32)), (0, .ref (xa X q))]) d_Hub_setPeriods_3 (by decide) rfl ?_
  refine g_sub [2, 1, 0] rfl (l_L_Hub_setPeriods_4 F hlk hr _ hq _ (fun z8 σ9 => ?_) FU _ _ _)
  refine g_iload_n F d_Hub_setPeriods_60 0 rfl ?_
  exact g_zret F hlk hr d_Hub_setPeriods_61
def y_Hub_restartAll : MethodName := ⟨"SensorHub$Hub", "restartAll", "()V"⟩
theorem d_Hub_restartAll_0 : decode prog_4_method_22_code 0 = .ok (.aload_n 0, 1) := by decide +kernel
theorem d_Hub_restartAll_1 : decode prog_4_method_22_code 1 = .ok (.aload_n 0, 1) := by decide +kernel
theorem d_Hub_restartAll_2 : decode prog_4_method_22_code 2 = .ok (.getfield 46, 3) := by decide +kernel
theorem d_Hub_restartAll_5 : decode prog_4_method_22_code 5 = .ok (.putfield 50, 3) := by decide +kernel
theorem d_Hub_restartAll_8 : decode prog_4_method_22_code 8 = .ok (.iconst 0, 1) := by decide +kernel
theorem d_Hub_restartAll_9 : decode prog_4_method_22_code 9 = .ok (.istore_n 1, 1) := by decide +kernel
theorem d_Hub_restartAll_10 : decode prog_4_method_22_code 10 = .ok (.iload_n 1, 1) := by decide +kernel
theorem d_Hub_restartAll_11 : decode prog_4_method_22_code 11 = .ok (.bipush 8, 2) := by decide +kernel
theorem d_Hub_restartAll_13 : decode prog_4_method_22_code 13 = .ok (.if_icmp .ge 23, 3) := by decide +kernel
theorem d_Hub_restartAll_16 : decode prog_4_method_22_code 16 = .ok (.aload_n 0, 1) := by decide +kernel
theorem d_Hub_restartAll_17 : decode prog_4_method_22_code 17 = .ok (.iload_n 1, 1) := by decide +kernel
theorem d_Hub_restartAll_18 : decode prog_4_method_22_code 18 = .ok (.invokevirtual 101, 3) := by decide +kernel
theorem d_Hub_restartAll_21 : decode prog_4_method_22_code 21 = .ok (.astore_n 2, 1) := by decide +kernel
theorem d_Hub_restartAll_22 : decode prog_4_method_22_code 22 = .ok (.aload_n 2, 1) := by decide +kernel
theorem d_Hub_restartAll_23 : decode prog_4_method_22_code 23 = .ok (.ifnull 7, 3) := by decide +kernel
theorem d_Hub_restartAll_26 : decode prog_4_method_22_code 26 = .ok (.aload_n 2, 1) := by decide +kernel
theorem d_Hub_restartAll_27 : decode prog_4_method_22_code 27 = .ok (.invokevirtual 186, 3) := by decide +kernel
theorem d_Hub_restartAll_30 : decode prog_4_method_22_code 30 = .ok (.iinc 1 1, 3) := by decide +kernel
theorem d_Hub_restartAll_33 : decode prog_4_method_22_code 33 = .ok (.goto (-23), 3) := by decide +kernel
theorem d_Hub_restartAll_36 : decode prog_4_method_22_code 36 = .ok (.iconst 0, 1) := by decide +kernel
theorem d_Hub_restartAll_37 : decode prog_4_method_22_code 37 = .ok (.istore_n 1, 1) := by decide +kernel
theorem d_Hub_restartAll_38 : decode prog_4_method_22_code 38 = .ok (.iload_n 1, 1) := by decide +kernel
theorem d_Hub_restartAll_39 : decode prog_4_method_22_code 39 = .ok (.bipush 8, 2) := by decide +kernel
theorem d_Hub_restartAll_41 : decode prog_4_method_22_code 41 = .ok (.if_icmp .ge 24, 3) := by decide +kernel
theorem d_Hub_restartAll_44 : decode prog_4_method_22_code 44 = .ok (.aload_n 0, 1) := by decide +kernel
theorem d_Hub_restartAll_45 : decode prog_4_method_22_code 45 = .ok (.iload_n 1, 1) := by decide +kernel
theorem d_Hub_restartAll_46 : decode prog_4_method_22_code 46 = .ok (.invokevirtual 130, 3) := by decide +kernel
theorem d_Hub_restartAll_49 : decode prog_4_method_22_code 49 = .ok (.astore_n 2, 1) := by decide +kernel
theorem d_Hub_restartAll_50 : decode prog_4_method_22_code 50 = .ok (.aload_n 2, 1) := by decide +kernel
theorem d_Hub_restartAll_51 : decode prog_4_method_22_code 51 = .ok (.ifnull 8, 3) := by decide +kernel
theorem d_Hub_restartAll_54 : decode prog_4_method_22_code 54 = .ok (.aload_n 2, 1) := by decide +kernel
theorem d_Hub_restartAll_55 : decode prog_4_method_22_code 55 = .ok (.iconst 0, 1) := by decide +kernel
theorem d_Hub_restartAll_56 : decode prog_4_method_22_code 56 = .ok (.putfield 189, 3) := by decide +kernel
theorem d_Hub_restartAll_59 : decode prog_4_method_22_code 59 = .ok (.iinc 1 1, 3) := by decide +kernel
theorem d_Hub_restartAll_62 : decode prog_4_method_22_code 62 = .ok (.goto (-24), 3) := by decide +kernel
theorem d_Hub_restartAll_65 : decode prog_4_method_22_code 65 = .ok (.return_, 1) := by decide +kernel
theorem cv_2_186 : CSV "SensorHub$Hub" 186 y_Sen_forget prog_6_method_5_code 1 none 0 := ⟨gw_I 567 (by decide +kernel) rfl, gw_I 456 (by decide +kernel) rfl, gw_I 457 (by decide +kernel) rfl, gw_I 74 (by decide +kernel) rfl, gw_I 458 (by decide +kernel) rfl, ⟨by decide +kernel, by decide +kernel⟩, by decide +kernel⟩
theorem fw_2_189 : FW "SensorHub$Hub" 189 0 5 .int := ⟨"SensorHub$Client", T_0, 11, rfl, by decide, rfl, gw_I 241 (by decide +kernel) rfl, rfl, by decide +kernel⟩
def L_Hub_restartAll_10 (r0 : Nat) (k : Mem → Option (Unit × Mem)) : Nat → Int32 → Mem → Option (Unit × Mem)
  | 0, _, _ => none
  | n + 1, x1, σ =>
    if (8 : Int32) ≤ x1 then
      k σ
    else
      bd (f_Hub_sensorAt r0 x1 σ) fun r2 σ3 =>
      oe r2 (
        L_Hub_restartAll_10 r0 k n (x1 + 1) σ3
      ) (fun o4 =>
        bd (f_Sen_forget o4 σ3) fun _ σ6 =>
        L_Hub_restartAll_10 r0 k n (x1 + 1) σ6
      )
def L_Hub_restartAll_38 (r0 : Nat) (k : Mem → Option (Unit × Mem)) : Nat → Int32 → Mem → Option (Unit × Mem)
  | 0, _, _ => none
  | n + 1, x1, σ =>
    if (8 : Int32) ≤ x1 then
      k σ
    else
      bd (f_Hub_clientAt r0 x1 σ) fun r8 σ9 =>
      oe r8 (
        L_Hub_restartAll_38 r0 k n (x1 + 1) σ9
      ) (fun o10 =>
        lt (wr σ9 o10 5 (0 : Int32)) fun σ11 =>
        L_Hub_restartAll_38 r0 k n (x1 + 1) σ11
      )
def f_Hub_restartAll (q : Nat) (σ : Mem) : Option (Unit × Mem) :=
  lt (wr σ q 1 (σ q 0)) fun σ1 =>
  L_Hub_restartAll_10 q (fun σ7 =>
    L_Hub_restartAll_38 q (fun σ12 =>
      some ((), σ12)) FU (0 : Int32) σ7) FU (0 : Int32) σ1
set_option maxRecDepth 100000 in
set_option maxHeartbeats 4000000 in
theorem l_L_Hub_restartAll_10 {X : CX} {p : Program} {l : Launch} {e : Env} {s : State} {m : MethodId} {args : Array Value} {below : List Frame} {meth : Method} {c : Code} (F : FR p s m args c prog_4_method_22_code 3 "SensorHub$Hub" X) (hlk : meth.locks = false) (hr : meth.sig.returnType = none) (r0 : Nat) (hr0 : HubOK X r0) (k : Mem → Option (Unit × Mem)) (hk : ∀  (σ : Mem), G X p l e (rmD 1) s m args below meth c 3 0 0 (QI X below args s vU) 36 [(0, .ref (xa X r0))] [] σ (k σ)) : ∀ (n : Nat) (x1 : Int32) (σ : Mem), G X p l e (rmD 1) s m args below meth c 3 0 0 (QI X below args s vU) 10 [(0, .ref (xa X r0)), (1, .int x1)] [] σ (L_Hub_restartAll_10 r0 k n x1 σ) := by
  intro n
  induction n with
  | zero => intros; exact g_no
  | succ n ih =>
    intro x1 σ
    unfold L_Hub_restartAll_10
    refine g_iload_n F d_Hub_restartAll_10 1 rfl ?_
    refine g_bipush F (v := 8) d_Hub_restartAll_11 (by decide) ?_
    refine g_icmp_ge F (tgt := 36) d_Hub_restartAll_13 (by decide) (fun h1 => ?_) (fun h2 => ?_)
    · exact g_sub [0] rfl (hk  _)
    refine g_aload_n F d_Hub_restartAll_16 0 rfl ?_
    refine g_iload_n F d_Hub_restartAll_17 1 rfl ?_
    refine g_callV F (dp := 0) (ci := 2) (As := [.int x1]) (c_Hub_sensorAt l _ _ hr0 _) cv_2_101 hr0.1 rfl rfl rfl (Nat.le_of_ble_eq_true rfl) ⟨Nat.le_of_ble_eq_true rfl, Nat.le_of_ble_eq_true rfl⟩ ⟨Nat.zero_le _, Nat.zero_le _⟩ d_Hub_restartAll_18 (fun r2 σ3 h3 => ?_)
    refine g_oe (fun h4 => ?_) (fun o4 h5 => ?_)
    · refine g_astore_nN F (ls' := [(2, .null), (0, .ref (xa X r0)), (1, .int x1)]) d_Hub_restartAll_21 (by decide) rfl ?_
      refine g_aload_nN F d_Hub_restartAll_22 0 rfl ?_
      refine g_ifnullN F (tgt := 30) d_Hub_restartAll_23 (by decide) ?_
      refine g_iinc F (v := 1) (ls' := [(1, .int (x1 + 1)), (2, .null), (0, .ref (xa X r0))]) d_Hub_restartAll_30 2 rfl (by decide) (by decide) rfl ?_
      refine g_goto F (tgt := 10) d_Hub_restartAll_33 (by decide) ?_
      exact g_sub [2, 0] rfl (ih _ _)
    have h6 : SensorOK X o4 := ok_Hub_sensorAt hr0 (h5 ▸ h3)
    refine g_astore_n F (ls' := [(2, .ref (xa X o4)), (0, .ref (xa X r0)), (1, .int x1)]) d_Hub_restartAll_21 (by decide) rfl ?_
    refine g_aload_n F d_Hub_restartAll_22 0 rfl ?_
    refine g_ifnull F d_Hub_restartAll_23 ?_
    refine g_aload_n F d_Hub_restartAll_26 0 rfl ?_
    refine g_callV F (dp := 0) (ci := 4) (As := []) (c_Sen_forget l _ h6 _) cv_2_186 h6.1 rfl rfl rfl (Nat.le_of_ble_eq_true rfl) ⟨Nat.le_of_ble_eq_true rfl, Nat.le_of_ble_eq_true rfl⟩ ⟨Nat.zero_le _, Nat.zero_le _⟩ d_Hub_restartAll_27 (fun _ σ6 h7 => ?_)
    refine g_iinc F (v := 1) (ls' := [(1, .int (x1 + 1)), (2, .ref (xa X o4)), (0, .ref (xa X r0))]) d_Hub_restartAll_30 2 rfl (by decide) (by decide) rfl ?_
    refine g_goto F (tgt := 10) d_Hub_restartAll_33 (by decide) ?_
    exact g_sub [2, 0] rfl (ih _ _)
set_option maxRecDepth 100000 in
set_option maxHeartbeats 4000000 in
theorem l_L_Hub_restartAll_38 {X : CX} {p : Program} {l : Launch} {e : Env} {s : State} {m : MethodId} {args : Array Value} {below : List Frame} {meth : Method} {c : Code} (F : FR p s m args c prog_4_method_22_code 3 "SensorHub$Hub" X) (hlk : meth.locks = false) (hr : meth.sig.returnType = none) (r0 : Nat) (hr0 : HubOK X r0) (k : Mem → Option (Unit × Mem)) (hk : ∀  (σ : Mem), G X p l e (rmD 1) s m args below meth c 3 0 0 (QI X below args s vU) 65 [] [] σ (k σ)) : ∀ (n : Nat) (x1 : Int32) (σ : Mem), G X p l e (rmD 1) s m args below meth c 3 0 0 (QI X below args s vU) 38 [(0, .ref (xa X r0)), (1, .int x1)] [] σ (L_Hub_restartAll_38 r0 k n x1 σ) := by
  intro n
  induction n with
  | zero => intros; exact g_no
  | succ n ih =>
    intro x1 σ
    unfold L_Hub_restartAll_38
    refine g_iload_n F d_Hub_restartAll_38 1 rfl ?_
    refine g_bipush F (v := 8) d_Hub_restartAll_39 (by decide) ?_
    refine g_icmp_ge F (tgt := 65) d_Hub_restartAll_41 (by decide) (fun h8 => ?_) (fun h9 => ?_)
    · exact g_sub [] rfl (hk  _)
    refine g_aload_n F d_Hub_restartAll_44 0 rfl ?_
    refine g_iload_n F d_Hub_restartAll_45 1 rfl ?_
    refine g_callV F (dp := 0) (ci := 2) (As := [.int x1]) (c_Hub_clientAt l _ _ hr0 _) cv_2_130 hr0.1 rfl rfl rfl (Nat.le_of_ble_eq_true rfl) ⟨Nat.le_of_ble_eq_true rfl, Nat.le_of_ble_eq_true rfl⟩ ⟨Nat.zero_le _, Nat.zero_le _⟩ d_Hub_restartAll_46 (fun r8 σ9 h10 => ?_)
    refine g_oe (fun h11 => ?_) (fun o10 h12 => ?_)
    · refine g_astore_nN F (ls' := [(2, .null), (0, .ref (xa X r0)), (1, .int x1)]) d_Hub_restartAll_49 (by decide) rfl ?_
      refine g_aload_nN F d_Hub_restartAll_50 0 rfl ?_
      refine g_ifnullN F (tgt := 59) d_Hub_restartAll_51 (by decide) ?_
      refine g_iinc F (v := 1) (ls' := [(1, .int (x1 + 1)), (2, .null), (0, .ref (xa X r0))]) d_Hub_restartAll_59 2 rfl (by decide) (by decide) rfl ?_
      refine g_goto F (tgt := 38) d_Hub_restartAll_62 (by decide) ?_
      exact g_sub [2, 0] rfl (ih _ _)
    have h13 : ClientOK X o10 := ok_Hub_clientAt hr0 (h12 ▸ h10)
    refine g_astore_n F (ls' := [(2, .ref (xa X o10)), (0, .ref (xa X r0)), (1, .int x1)]) d_Hub_restartAll_49 (by decide) rfl ?_
    refine g_aload_n F d_Hub_restartAll_50 0 rfl ?_
    refine g_ifnull F d_Hub_restartAll_51 ?_
    refine g_aload_n F d_Hub_restartAll_54 0 rfl ?_
    refine g_iconst F (v := 0) d_Hub_restartAll_55 (by decide) ?_
    refine g_putI F fw_2_189 h13.1 rfl d_Hub_restartAll_56 ?_
    refine g_ltM (fun σ11 _ => ?_)
    refine g_iinc F (v := 1) (ls' := [(1, .int (x1 + 1)), (2, .ref (xa X o10)), (0, .ref (xa X r0))]) d_Hub_restartAll_59 2 rfl (by decide) (by decide) rfl ?_
    refine g_goto F (tgt := 38) d_Hub_restartAll_62 (by decide) ?_
    exact g_sub [2, 0] rfl (ih _ _)
set_option maxRecDepth 100000 in
set_option maxHeartbeats 4000000 in
theorem c_Hub_restartAll {X : CX} (l : Launch) (q : Nat) (hq : HubOK X q) (σ : Mem) : CT X l y_Hub_restartAll prog_4_method_22_code 3 none 1 vU [.ref (xa X q)] σ (f_Hub_restartAll q σ) := by
  refine CT_of (by decide +kernel) (Nat.le_of_ble_eq_true rfl) ?_
  intro p e s m args below meth c F hlk hr
  have F : FR p s m args c prog_4_method_22_code 3 "SensorHub$Hub" X := F
  show G X p l e (rmD 1) s m args below meth c 3 0 0 (QI X below args s vU) 0 [(0, .ref (xa X q))] [] σ _
  unfold f_Hub_restartAll
  refine g_aload_n F d_Hub_restartAll_0 0 rfl ?_
  refine g_aload_n F d_Hub_restartAll_1 0 rfl ?_
  refine g_getI F fs_2_46 hq.1 rfl d_Hub_restartAll_2 ?_
  refine g_putI F fw_2_50 hq.1 rfl d_Hub_restartAll_5 ?_
  refine g_ltM (fun σ1 _ => ?_)
  refine g_iconst F (v := 0) d_Hub_restartAll_8 (by decide) ?_
  refine g_istore_n F (ls' := [(1, .int (0 : Int32)), (0, .ref (xa X q))]) d_Hub_restartAll_9 (by decide) rfl ?_
  refine g_sub [1, 0] rfl (l_L_Hub_restartAll_10 F hlk hr _ hq _ (fun σ7 => ?_) FU _ _)
  refine g_iconst F (v := 0) d_Hub_restartAll_36 (by decide) ?_
  refine g_istore_n F (ls' := [(1, .int (0 : Int32)), (0, .ref (xa X q))]) d_Hub_restartAll_37 (by decide) rfl ?_
  refine g_sub [1, 0] rfl (l_L_Hub_restartAll_38 F hlk hr _ hq _ (fun σ12 => ?_) FU _ _)
  exact g_vret F hlk hr d_Hub_restartAll_65
def y_Hub_settlePeriods : MethodName := ⟨"SensorHub$Hub", "settlePeriods", "()V"⟩
theorem d_Hub_settlePeriods_0 : decode prog_4_method_17_code 0 = .ok (.aload_n 0, 1) := by decide +kernel
theorem d_Hub_settlePeriods_1 : decode prog_4_method_17_code 1 = .ok (.invokevirtual 139, 3) := by decide +kernel
theorem d_Hub_settlePeriods_4 : decode prog_4_method_17_code 4 = .ok (.aload_n 0, 1) := by decide +kernel
theorem d_Hub_settlePeriods_5 : decode prog_4_method_17_code 5 = .ok (.invokevirtual 142, 3) := by decide +kernel
theorem d_Hub_settlePeriods_8 : decode prog_4_method_17_code 8 = .ok (.ifCond .eq 7, 3) := by decide +kernel
theorem d_Hub_settlePeriods_11 : decode prog_4_method_17_code 11 = .ok (.aload_n 0, 1) := by decide +kernel
theorem d_Hub_settlePeriods_12 : decode prog_4_method_17_code 12 = .ok (.invokevirtual 146, 3) := by decide +kernel
theorem d_Hub_settlePeriods_15 : decode prog_4_method_17_code 15 = .ok (.iconst 0, 1) := by decide +kernel
theorem d_Hub_settlePeriods_16 : decode prog_4_method_17_code 16 = .ok (.istore_n 1, 1) := by decide +kernel
theorem d_Hub_settlePeriods_17 : decode prog_4_method_17_code 17 = .ok (.iload_n 1, 1) := by decide +kernel
theorem d_Hub_settlePeriods_18 : decode prog_4_method_17_code 18 = .ok (.bipush 8, 2) := by decide +kernel
theorem d_Hub_settlePeriods_20 : decode prog_4_method_17_code 20 = .ok (.if_icmp .ge 55, 3) := by decide +kernel
theorem d_Hub_settlePeriods_23 : decode prog_4_method_17_code 23 = .ok (.aload_n 0, 1) := by decide +kernel
theorem d_Hub_settlePeriods_24 : decode prog_4_method_17_code 24 = .ok (.iload_n 1, 1) := by decide +kernel
theorem d_Hub_settlePeriods_25 : decode prog_4_method_17_code 25 = .ok (.invokevirtual 130, 3) := by decide +kernel
theorem d_Hub_settlePeriods_28 : decode prog_4_method_17_code 28 = .ok (.astore_n 2, 1) := by decide +kernel
theorem d_Hub_settlePeriods_29 : decode prog_4_method_17_code 29 = .ok (.aload_n 2, 1) := by decide +kernel
theorem d_Hub_settlePeriods_30 : decode prog_4_method_17_code 30 = .ok (.ifnonnull 7, 3) := by decide +kernel
theorem d_Hub_settlePeriods_33 : decode prog_4_method_17_code 33 = .ok (.aconst_null, 1) := by decide +kernel
theorem d_Hub_settlePeriods_34 : decode prog_4_method_17_code 34 = .ok (.goto 11, 3) := by decide +kernel
theorem d_Hub_settlePeriods_37 : decode prog_4_method_17_code 37 = .ok (.aload_n 0, 1) := by decide +kernel
theorem d_Hub_settlePeriods_38 : decode prog_4_method_17_code 38 = .ok (.aload_n 2, 1) := by decide +kernel
theorem d_Hub_settlePeriods_39 : decode prog_4_method_17_code 39 = .ok (.getfield 149, 3) := by decide +kernel
theorem d_Hub_settlePeriods_42 : decode prog_4_method_17_code 42 = .ok (.invokevirtual 101, 3) := by decide +kernel
theorem d_Hub_settlePeriods_45 : decode prog_4_method_17_code 45 = .ok (.astore_n 3, 1) := by decide +kernel
theorem d_Hub_settlePeriods_46 : decode prog_4_method_17_code 46 = .ok (.aload_n 2, 1) := by decide +kernel
theorem d_Hub_settlePeriods_47 : decode prog_4_method_17_code 47 = .ok (.ifnull 22, 3) := by decide +kernel
theorem d_Hub_settlePeriods_50 : decode prog_4_method_17_code 50 = .ok (.aload_n 3, 1) := by decide +kernel
theorem d_Hub_settlePeriods_51 : decode prog_4_method_17_code 51 = .ok (.ifnull 18, 3) := by decide +kernel
theorem d_Hub_settlePeriods_54 : decode prog_4_method_17_code 54 = .ok (.aload_n 2, 1) := by decide +kernel
theorem d_Hub_settlePeriods_55 : decode prog_4_method_17_code 55 = .ok (.aload_n 2, 1) := by decide +kernel
theorem d_Hub_settlePeriods_56 : decode prog_4_method_17_code 56 = .ok (.getfield 152, 3) := by decide +kernel
theorem d_Hub_settlePeriods_59 : decode prog_4_method_17_code 59 = .ok (.aload_n 3, 1) := by decide +kernel
theorem d_Hub_settlePeriods_60 : decode prog_4_method_17_code 60 = .ok (.getfield 155, 3) := by decide +kernel
theorem d_Hub_settlePeriods_63 : decode prog_4_method_17_code 63 = .ok (.invokestatic 156, 3) := by decide +kernel
theorem d_Hub_settlePeriods_66 : decode prog_4_method_17_code 66 = .ok (.putfield 159, 3) := by decide +kernel
theorem d_Hub_settlePeriods_69 : decode prog_4_method_17_code 69 = .ok (.iinc 1 1, 3) := by decide +kernel
theorem d_Hub_settlePeriods_72 : decode prog_4_method_17_code 72 = .ok (.goto (-55), 3) := by decide +kernel
theorem d_Hub_settlePeriods_75 : decode prog_4_method_17_code 75 = .ok (.return_, 1) := by decide +kernel
theorem cv_2_139 : CSV "SensorHub$Hub" 139 y_Hub_setDemands prog_4_method_18_code 3 none 0 := ⟨gw_I 539 (by decide +kernel) rfl, gw_I 541 (by decide +kernel) rfl, gw_I 3 (by decide +kernel) rfl, gw_I 71 (by decide +kernel) rfl, gw_I 542 (by decide +kernel) rfl, ⟨by decide +kernel, by decide +kernel⟩, by decide +kernel⟩
theorem cv_2_142 : CSV "SensorHub$Hub" 142 y_Hub_setPeriods prog_4_method_20_code 5 (some .boolean) 0 := ⟨gw_I 551 (by decide +kernel) rfl, gw_I 553 (by decide +kernel) rfl, gw_I 5 (by decide +kernel) rfl, gw_I 71 (by decide +kernel) rfl, gw_I 554 (by decide +kernel) rfl, ⟨by decide +kernel, by decide +kernel⟩, by decide +kernel⟩
theorem cs_2_156 : CSN "SensorHub$Hub" 156 y_X_quotient "SensorHub" prog_1_method_26_code 2 (some .int) 2 := ⟨List.mem_of_getElem? (i := 8) rfl, gw_I 569 (by decide +kernel) rfl, gw_I 70 (by decide +kernel) rfl, gw_I 570 (by decide +kernel) rfl, ⟨by decide +kernel, by decide +kernel⟩, by decide +kernel⟩
theorem fw_2_159 : FW "SensorHub$Hub" 159 0 4 .int := ⟨"SensorHub$Client", T_0, 11, rfl, by decide, rfl, gw_I 238 (by decide +kernel) rfl, rfl, by decide +kernel⟩
theorem cv_2_146 : CSV "SensorHub$Hub" 146 y_Hub_restartAll prog_4_method_22_code 3 none 0 := ⟨gw_I 563 (by decide +kernel) rfl, gw_I 565 (by decide +kernel) rfl, gw_I 7 (by decide +kernel) rfl, gw_I 71 (by decide +kernel) rfl, gw_I 566 (by decide +kernel) rfl, ⟨by decide +kernel, by decide +kernel⟩, by decide +kernel⟩
def L_Hub_settlePeriods_17 (r0 : Nat) (k : Mem → Option (Unit × Mem)) : Nat → Int32 → Mem → Option (Unit × Mem)
  | 0, _, _ => none
  | n + 1, x1, σ =>
    if (8 : Int32) ≤ x1 then
      k σ
    else
      bd (f_Hub_clientAt r0 x1 σ) fun r5 σ6 =>
      oe r5 (
        L_Hub_settlePeriods_17 r0 k n (x1 + 1) σ6
      ) (fun o7 =>
        bd (f_Hub_sensorAt r0 (σ6 o7 1) σ6) fun r8 σ9 =>
        oe r8 (
          L_Hub_settlePeriods_17 r0 k n (x1 + 1) σ9
        ) (fun o10 =>
          bd (f_X_quotient (σ9 o7 2) (σ9 o10 11) σ9) fun r11 σ12 =>
          lt (wr σ12 o7 4 r11) fun σ13 =>
          L_Hub_settlePeriods_17 r0 k n (x1 + 1) σ13
        )
      )
def f_Hub_settlePeriods (q : Nat) (σ : Mem) : Option (Unit × Mem) :=
  bd (f_Hub_setDemands q σ) fun _ σ2 =>
  bd (f_Hub_setPeriods q σ2) fun r3 σ4 =>
  if r3 = 0 then
    L_Hub_settlePeriods_17 q (fun σ14 =>
      some ((), σ14)) FU (0 : Int32) σ4
  else
    bd (f_Hub_restartAll q σ4) fun _ σ16 =>
    L_Hub_settlePeriods_17 q (fun σ17 =>
      some ((), σ17)) FU (0 : Int32) σ16
set_option maxRecDepth 100000 in
set_option maxHeartbeats 4000000 in
theorem l_L_Hub_settlePeriods_17 {X : CX} {p : Program} {l : Launch} {e : Env} {s : State} {m : MethodId} {args : Array Value} {below : List Frame} {meth : Method} {c : Code} (F : FR p s m args c prog_4_method_17_code 4 "SensorHub$Hub" X) (hlk : meth.locks = false) (hr : meth.sig.returnType = none) (r0 : Nat) (hr0 : HubOK X r0) (k : Mem → Option (Unit × Mem)) (hk : ∀  (σ : Mem), G X p l e (rmD 3) s m args below meth c 4 0 0 (QI X below args s vU) 75 [] [] σ (k σ)) : ∀ (n : Nat) (x1 : Int32) (σ : Mem), G X p l e (rmD 3) s m args below meth c 4 0 0 (QI X below args s vU) 17 [(0, .ref (xa X r0)), (1, .int x1)] [] σ (L_Hub_settlePeriods_17 r0 k n x1 σ) := by
  intro n
  induction n with
  | zero => intros; exact g_no
  | succ n ih =>
    intro x1 σ
    unfold L_Hub_settlePeriods_17
    refine g_iload_n F d_Hub_settlePeriods_17 1 rfl ?_
    refine g_bipush F (v := 8) d_Hub_settlePeriods_18 (by decide) ?_
    refine g_icmp_ge F (tgt := 75) d_Hub_settlePeriods_20 (by decide) (fun h5 => ?_) (fun h6 => ?_)
    · exact g_sub [] rfl (hk  _)
    refine g_aload_n F d_Hub_settlePeriods_23 0 rfl ?_
    refine g_iload_n F d_Hub_settlePeriods_24 1 rfl ?_
    refine g_callV F (dp := 0) (ci := 2) (As := [.int x1]) (c_Hub_clientAt l _ _ hr0 _) cv_2_130 hr0.1 rfl rfl rfl (Nat.le_of_ble_eq_true rfl) ⟨Nat.le_of_ble_eq_true rfl, Nat.le_of_ble_eq_true rfl⟩ ⟨Nat.zero_le _, Nat.zero_le _⟩ d_Hub_settlePeriods_25 (fun r5 σ6 h7 => ?_)
    refine g_oe (fun h8 => ?_) (fun o7 h9 => ?_)
    · refine g_astore_nN F (ls' := [(2, .null), (0, .ref (xa X r0)), (1, .int x1)]) d_Hub_settlePeriods_28 (by decide) rfl ?_
      refine g_aload_nN F d_Hub_settlePeriods_29 0 rfl ?_
      refine g_ifnonnullN F d_Hub_settlePeriods_30 ?_
      refine g_null F d_Hub_settlePeriods_33 ?_
      refine g_goto F (tgt := 45) d_Hub_settlePeriods_34 (by decide) ?_
      refine g_astore_nN F (ls' := [(3, .null), (2, .null), (0, .ref (xa X r0)), (1, .int x1)]) d_Hub_settlePeriods_45 (by decide) rfl ?_
      refine g_aload_nN F d_Hub_settlePeriods_46 1 rfl ?_
      refine g_ifnullN F (tgt := 69) d_Hub_settlePeriods_47 (by decide) ?_
      refine g_iinc F (v := 1) (ls' := [(1, .int (x1 + 1)), (3, .null), (2, .null), (0, .ref (xa X r0))]) d_Hub_settlePeriods_69 3 rfl (by decide) (by decide) rfl ?_
      refine g_goto F (tgt := 17) d_Hub_settlePeriods_72 (by decide) ?_
      exact g_sub [3, 0] rfl (ih _ _)
    have h10 : ClientOK X o7 := ok_Hub_clientAt hr0 (h9 ▸ h7)
    refine g_astore_n F (ls' := [(2, .ref (xa X o7)), (0, .ref (xa X r0)), (1, .int x1)]) d_Hub_settlePeriods_28 (by decide) rfl ?_
    refine g_aload_n F d_Hub_settlePeriods_29 0 rfl ?_
    refine g_ifnonnull F (tgt := 37) d_Hub_settlePeriods_30 (by decide) ?_
    refine g_aload_n F d_Hub_settlePeriods_37 1 rfl ?_
    refine g_aload_n F d_Hub_settlePeriods_38 0 rfl ?_
    refine g_getI F fs_2_149 h10.1 rfl d_Hub_settlePeriods_39 ?_
    refine g_callV F (dp := 0) (ci := 2) (As := [.int (σ6 o7 1)]) (c_Hub_sensorAt l _ _ hr0 _) cv_2_101 hr0.1 rfl rfl rfl (Nat.le_of_ble_eq_true rfl) ⟨Nat.le_of_ble_eq_true rfl, Nat.le_of_ble_eq_true rfl⟩ ⟨Nat.zero_le _, Nat.zero_le _⟩ d_Hub_settlePeriods_42 (fun r8 σ9 h11 => ?_)
    refine g_oe (fun h12 => ?_) (fun o10 h13 => ?_)
    · refine g_astore_nN F (ls' := [(3, .null), (2, .ref (xa X o7)), (0, .ref (xa X r0)), (1, .int x1)]) d_Hub_settlePeriods_45 (by decide) rfl ?_
      refine g_aload_n F d_Hub_settlePeriods_46 1 rfl ?_
      refine g_ifnull F d_Hub_settlePeriods_47 ?_
      refine g_aload_nN F d_Hub_settlePeriods_50 0 rfl ?_
      refine g_ifnullN F (tgt := 69) d_Hub_settlePeriods_51 (by decide) ?_
      refine g_iinc F (v := 1) (ls' := [(1, .int (x1 + 1)), (3, .null), (2, .ref (xa X o7)), (0, .ref (xa X r0))]) d_Hub_settlePeriods_69 3 rfl (by decide) (by decide) rfl ?_
      refine g_goto F (tgt := 17) d_Hub_settlePeriods_72 (by decide) ?_
      exact g_sub [3, 0] rfl (ih _ _)
    have h14 : SensorOK X o10 := ok_Hub_sensorAt hr0 (h13 ▸ h11)
    refine g_astore_n F (ls' := [(3, .ref (xa X o10)), (2, .ref (xa X o7)), (0, .ref (xa X r0)), (1, .int x1)]) d_Hub_settlePeriods_45 (by decide) rfl ?_
    refine g_aload_n F d_Hub_settlePeriods_46 1 rfl ?_
    refine g_ifnull F d_Hub_settlePeriods_47 ?_
    refine g_aload_n F d_Hub_settlePeriods_50 0 rfl ?_
    refine g_ifnull F d_Hub_settlePeriods_51 ?_
    refine g_aload_n F d_Hub_settlePeriods_54 1 rfl ?_
    refine g_aload_n F d_Hub_settlePeriods_55 1 rfl ?_
    refine g_getI F fs_2_152 h10.1 rfl d_Hub_settlePeriods_56 ?_
    refine g_aload_n F d_Hub_settlePeriods_59 0 rfl ?_
    refine g_getI F fs_2_155 h14.1 rfl d_Hub_settlePeriods_60 ?_
    refine g_callSN F (dp := 1) (As := [.int (σ9 o7 2), .int (σ9 o10 11)]) (c_X_quotient l _ _ _) cs_2_156 rfl rfl (Nat.le_of_ble_eq_true rfl) ⟨Nat.le_of_ble_eq_true rfl, Nat.le_of_ble_eq_true rfl⟩ ⟨Nat.zero_le _, Nat.zero_le _⟩ d_Hub_settlePeriods_63 (fun r11 σ12 h15 => ?_)
    refine g_putI F fw_2_159 h10.1 rfl d_Hub_settlePeriods_66 ?_
    refine g_ltM (fun σ13 _ => ?_)
    refine g_iinc F (v := 1) (ls' := [(1, .int (x1 + 1)), (3, .ref (xa X o10)), (2, .ref (xa X o7)), (0, .ref (xa X r0))]) d_Hub_settlePeriods_69 3 rfl (by decide) (by decide) rfl ?_
    refine g_goto F (tgt := 17) d_Hub_settlePeriods_72 (by decide) ?_
    exact g_sub [3, 0] rfl (ih _ _)
set_option maxRecDepth 100000 in
set_option maxHeartbeats 4000000 in
theorem c_Hub_settlePeriods {X : CX} (l : Launch) (q : Nat) (hq : HubOK X q) (σ : Mem) : CT X l y_Hub_settlePeriods prog_4_method_17_code 4 none 3 vU [.ref (xa X q)] σ (f_Hub_settlePeriods q σ) := by
  refine CT_of (by decide +kernel) (Nat.le_of_ble_eq_true rfl) ?_
  intro p e s m args below meth c F hlk hr
  have F : FR p s m args c prog_4_method_17_code 4 "SensorHub$Hub" X := F
  show G X p l e (rmD 3) s m args below meth c 4 0 0 (QI X below args s vU) 0 [(0, .ref (xa X q))] [] σ _
  unfold f_Hub_settlePeriods
  refine g_aload_n F d_Hub_settlePeriods_0 0 rfl ?_
  refine g_callV F (dp := 2) (ci := 2) (As := []) (c_Hub_setDemands l _ hq _) cv_2_139 hq.1 rfl rfl rfl (Nat.le_of_ble_eq_true rfl) ⟨Nat.le_of_ble_eq_true rfl, Nat.le_of_ble_eq_true rfl⟩ ⟨Nat.zero_le _, Nat.zero_le _⟩ d_Hub_settlePeriods_1 (fun _ σ2 h1 => ?_)
  refine g_aload_n F d_Hub_settlePeriods_4 0 rfl ?_
  refine g_callV F (dp := 2) (ci := 2) (As := []) (c_Hub_setPeriods l _ hq _) cv_2_142 hq.1 rfl rfl rfl (Nat.le_of_ble_eq_true rfl) ⟨Nat.le_of_ble_eq_true rfl, Nat.le_of_ble_eq_true rfl⟩ ⟨Nat.zero_le _, Nat.zero_le _⟩ d_Hub_settlePeriods_5 (fun r3 σ4 h2 => ?_)
  refine g_if_eq F (tgt := 15) d_Hub_settlePeriods_8 (by decide) (fun h3 => ?_) (fun h4 => ?_)
  · refine g_iconst F (v := 0) d_Hub_settlePeriods_15 (by decide) ?_
    refine g_istore_n F (ls' := [(1, .int (0 : Int32)), (0, .ref (xa X q))]) d_Hub_settlePeriods_16 (by decide) rfl ?_
    refine g_sub [1, 0] rfl (l_L_Hub_settlePeriods_17 F hlk hr _ hq _ (fun σ14 => ?_) FU _ _)
    exact g_vret F hlk hr d_Hub_settlePeriods_75
  refine g_aload_n F d_Hub_settlePeriods_11 0 rfl ?_
  refine g_callV F (dp := 1) (ci := 2) (As := []) (c_Hub_restartAll l _ hq _) cv_2_146 hq.1 rfl rfl rfl (Nat.le_of_ble_eq_true rfl) ⟨Nat.le_of_ble_eq_true rfl, Nat.le_of_ble_eq_true rfl⟩ ⟨Nat.zero_le _, Nat.zero_le _⟩ d_Hub_settlePeriods_12 (fun _ σ16 h16 => ?_)
  refine g_iconst F (v := 0) d_Hub_settlePeriods_15 (by decide) ?_
  refine g_istore_n F (ls' := [(1, .int (0 : Int32)), (0, .ref (xa X q))]) d_Hub_settlePeriods_16 (by decide) rfl ?_
  refine g_sub [1, 0] rfl (l_L_Hub_settlePeriods_17 F hlk hr _ hq _ (fun σ17 => ?_) FU _ _)
  exact g_vret F hlk hr d_Hub_settlePeriods_75
def y_Hub_putClient : MethodName := ⟨"SensorHub$Hub", "putClient", "(IIII)V"⟩
theorem d_Hub_putClient_0 : decode prog_4_method_15_code 0 = .ok (.aload_n 0, 1) := by decide +kernel
theorem d_Hub_putClient_1 : decode prog_4_method_15_code 1 = .ok (.iload_n 1, 1) := by decide +kernel
theorem d_Hub_putClient_2 : decode prog_4_method_15_code 2 = .ok (.invokevirtual 66, 3) := by decide +kernel
theorem d_Hub_putClient_5 : decode prog_4_method_15_code 5 = .ok (.astore 5, 2) := by decide +kernel
theorem d_Hub_putClient_7 : decode prog_4_method_15_code 7 = .ok (.aload 5, 2) := by decide +kernel
theorem d_Hub_putClient_9 : decode prog_4_method_15_code 9 = .ok (.ifnull 16, 3) := by decide +kernel
theorem d_Hub_putClient_12 : decode prog_4_method_15_code 12 = .ok (.aload 5, 2) := by decide +kernel
theorem d_Hub_putClient_14 : decode prog_4_method_15_code 14 = .ok (.iload_n 2, 1) := by decide +kernel
theorem d_Hub_putClient_15 : decode prog_4_method_15_code 15 = .ok (.iload_n 3, 1) := by decide +kernel
theorem d_Hub_putClient_16 : decode prog_4_method_15_code 16 = .ok (.iload 4, 2) := by decide +kernel
theorem d_Hub_putClient_18 : decode prog_4_method_15_code 18 = .ok (.invokevirtual 133, 3) := by decide +kernel
theorem d_Hub_putClient_21 : decode prog_4_method_15_code 21 = .ok (.aload_n 0, 1) := by decide +kernel
theorem d_Hub_putClient_22 : decode prog_4_method_15_code 22 = .ok (.invokevirtual 136, 3) := by decide +kernel
theorem d_Hub_putClient_25 : decode prog_4_method_15_code 25 = .ok (.return_, 1) := by decide +kernel
theorem cv_2_133 : CSV "SensorHub$Hub" 133 y_Cli_begin prog_2_method_2_code 4 none 3 := ⟨gw_I 531 (by decide +kernel) rfl, gw_I 532 (by decide +kernel) rfl, gw_I 533 (by decide +kernel) rfl, gw_I 75 (by decide +kernel) rfl, gw_I 534 (by decide +kernel) rfl, ⟨by decide +kernel, by decide +kernel⟩, by decide +kernel⟩
theorem cv_2_136 : CSV "SensorHub$Hub" 136 y_Hub_settlePeriods prog_4_method_17_code 4 none 0 := ⟨gw_I 535 (by decide +kernel) rfl, gw_I 537 (by decide +kernel) rfl, gw_I 2 (by decide +kernel) rfl, gw_I 71 (by decide +kernel) rfl, gw_I 538 (by decide +kernel) rfl, ⟨by decide +kernel, by decide +kernel⟩, by decide +kernel⟩
def f_Hub_putClient (q : Nat) (p1 : Int32) (p2 : Int32) (p3 : Int32) (p4 : Int32) (σ : Mem) : Option (Unit × Mem) :=
  bd (f_Hub_clientRoom q p1 σ) fun r1 σ2 =>
  oe r1 (
    some ((), σ2)
  ) (fun o3 =>
    bd (f_Cli_begin o3 p2 p3 p4 σ2) fun _ σ5 =>
    bd (f_Hub_settlePeriods q σ5) fun _ σ7 =>
    some ((), σ7)
  )
set_option maxRecDepth 100000 in
set_option maxHeartbeats 4000000 in
theorem c_Hub_putClient {X : CX} (l : Launch) (q : Nat) (p1 : Int32) (p2 : Int32) (p3 : Int32) (p4 : Int32) (hq : HubOK X q) (σ : Mem) : CT X l y_Hub_putClient prog_4_method_15_code 6 none 4 vU [.ref (xa X q), .int p1, .int p2, .int p3, .int p4] σ (f_Hub_putClient q p1 p2 p3 p4 σ) := by
  refine CT_of (by decide +kernel) (Nat.le_of_ble_eq_true rfl) ?_
  intro p e s m args below meth c F hlk hr
  have F : FR p s m args c prog_4_method_15_code 6 "SensorHub$Hub" X := F
  show G X p l e (rmD 4) s m args below meth c 6 0 0 (QI X below args s vU) 0 [(0, .ref (xa X q)), (1, .int p1), (2, .int p2), (3, .int p3), (4, .int p4)] [] σ _
  unfold f_Hub_putClient
  refine g_aload_n F d_Hub_putClient_0 0 rfl ?_
  refine g_iload_n F d_Hub_putClient_1 1 rfl ?_
  refine g_callV F (dp := 1) (ci := 2) (As := [.int p1]) (c_Hub_clientRoom l _ _ hq _) cv_2_66 hq.1 rfl rfl rfl (Nat.le_of_ble_eq_true rfl) ⟨Nat.le_of_ble_eq_true rfl, Nat.le_of_ble_eq_true rfl⟩ ⟨Nat.zero_le _, Nat.zero_le _⟩ d_Hub_putClient_2 (fun r1 σ2 h1 => ?_)
  refine g_oe (fun h2 => ?_) (fun o3 h3 => ?_)
  · refine g_astoreN F (ls' := [(5, .null), (0, .ref (xa X q)), (1, .int p1), (2, .int p2), (3, .int p3), (4, .int p4)]) d_Hub_putClient_5 (by decide) rfl ?_
    refine g_aloadN F d_Hub_putClient_7 0 rfl ?_
    refine g_ifnullN F (tgt := 25) d_Hub_putClient_9 (by decide) ?_
    exact g_vret F hlk hr d_Hub_putClient_25
  have h4 : ClientOK X o3 := ok_Hub_clientRoom hq (h3 ▸ h1)
  refine g_astore F (ls' := [(5, .ref (xa X o3)), (0, .ref (xa X q)), (1, .int p1), (2, .int p2), (3, .int p3), (4, .int p4)]) d_Hub_putClient_5 (by decide) rfl ?_
  refine g_aload F d_Hub_putClient_7 0 rfl ?_
  refine g_ifnull F d_Hub_putClient_9 ?_
  refine g_aload F d_Hub_putClient_12 0 rfl ?_
  refine g_iload_n F d_Hub_putClient_14 3 rfl ?_
  refine g_iload_n F d_Hub_putClient_15 4 rfl ?_
  refine g_iload F d_Hub_putClient_16 5 rfl ?_
  refine g_callV F (dp := 0) (ci := 0) (As := [.int p2, .int p3, .int p4]) (c_Cli_begin l _ _ _ _ h4 _) cv_2_133 h4.1 rfl rfl rfl (Nat.le_of_ble_eq_true rfl) ⟨Nat.le_of_ble_eq_true rfl, Nat.le_of_ble_eq_true rfl⟩ ⟨Nat.zero_le _, Nat.zero_le _⟩ d_Hub_putClient_18 (fun _ σ5 h5 => ?_)
  refine g_aload_n F d_Hub_putClient_21 1 rfl ?_
  refine g_callV F (dp := 3) (ci := 2) (As := []) (c_Hub_settlePeriods l _ hq _) cv_2_136 hq.1 rfl rfl rfl (Nat.le_of_ble_eq_true rfl) ⟨Nat.le_of_ble_eq_true rfl, Nat.le_of_ble_eq_true rfl⟩ ⟨Nat.zero_le _, Nat.zero_le _⟩ d_Hub_putClient_22 (fun _ σ7 h6 => ?_)
  exact g_vret F hlk hr d_Hub_putClient_25
def y_Hub_removeClient : MethodName := ⟨"SensorHub$Hub", "removeClient", "(LSensorHub$Client;)V"⟩
theorem d_Hub_removeClient_0 : decode prog_4_method_16_code 0 = .ok (.aload_n 1, 1) := by decide +kernel
theorem d_Hub_removeClient_1 : decode prog_4_method_16_code 1 = .ok (.iconst 0, 1) := by decide +kernel
theorem d_Hub_removeClient_2 : decode prog_4_method_16_code 2 = .ok (.putfield 70, 3) := by decide +kernel
theorem d_Hub_removeClient_5 : decode prog_4_method_16_code 5 = .ok (.aload_n 0, 1) := by decide +kernel
theorem d_Hub_removeClient_6 : decode prog_4_method_16_code 6 = .ok (.invokevirtual 136, 3) := by decide +kernel
theorem d_Hub_removeClient_9 : decode prog_4_method_16_code 9 = .ok (.return_, 1) := by decide +kernel
def f_Hub_removeClient (q : Nat) (q1 : Nat) (σ : Mem) : Option (Unit × Mem) :=
  lt (wr σ q1 0 (0 : Int32)) fun σ1 =>
  bd (f_Hub_settlePeriods q σ1) fun _ σ3 =>
  some ((), σ3)
set_option maxRecDepth 100000 in
set_option maxHeartbeats 4000000 in
theorem c_Hub_removeClient {X : CX} (l : Launch) (q : Nat) (q1 : Nat) (hq : HubOK X q) (hq1 : ClientOK X q1) (σ : Mem) : CT X l y_Hub_removeClient prog_4_method_16_code 2 none 4 vU [.ref (xa X q), .ref (xa X q1)] σ (f_Hub_removeClient q q1 σ) := by
  refine CT_of (by decide +kernel) (Nat.le_of_ble_eq_true rfl) ?_
  intro p e s m args below meth c F hlk hr
  have F : FR p s m args c prog_4_method_16_code 2 "SensorHub$Hub" X := F
  show G X p l e (rmD 4) s m args below meth c 2 0 0 (QI X below args s vU) 0 [(0, .ref (xa X q)), (1, .ref (xa X q1))] [] σ _
  unfold f_Hub_removeClient
  refine g_aload_n F d_Hub_removeClient_0 1 rfl ?_
  refine g_iconst F (v := 0) d_Hub_removeClient_1 (by decide) ?_
  refine g_pt (q := (0 : Int32) &&& 1 = (0 : Int32)) (by decide) (g_putZ F fw_2_70 hq1.1 rfl d_Hub_removeClient_2 ?_)
  refine g_ltM (fun σ1 _ => ?_)
  refine g_aload_n F d_Hub_removeClient_5 0 rfl ?_
  refine g_callV F (dp := 3) (ci := 2) (As := []) (c_Hub_settlePeriods l _ hq _) cv_2_136 hq.1 rfl rfl rfl (Nat.le_of_ble_eq_true rfl) ⟨Nat.le_of_ble_eq_true rfl, Nat.le_of_ble_eq_true rfl⟩ ⟨Nat.zero_le _, Nat.zero_le _⟩ d_Hub_removeClient_6 (fun _ σ3 h1 => ?_)
  exact g_vret F hlk hr d_Hub_removeClient_9
