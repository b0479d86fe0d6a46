def y_Str_coder : MethodName := ⟨"java/lang/String", "coder", "()B"⟩
theorem d_Str_coder_0 : decode prog_12_method_152_code 0 = .ok (.getstatic 38, 3) := by decide +kernel
theorem d_Str_coder_3 : decode prog_12_method_152_code 3 = .ok (.ifCond .eq 10, 3) := by decide +kernel
theorem d_Str_coder_6 : decode prog_12_method_152_code 6 = .ok (.aload_n 0, 1) := by decide +kernel
theorem d_Str_coder_7 : decode prog_12_method_152_code 7 = .ok (.getfield 15, 3) := by decide +kernel
theorem d_Str_coder_10 : decode prog_12_method_152_code 10 = .ok (.goto 4, 3) := by decide +kernel
theorem d_Str_coder_13 : decode prog_12_method_152_code 13 = .ok (.iconst 1, 1) := by decide +kernel
theorem d_Str_coder_14 : decode prog_12_method_152_code 14 = .ok (.ireturn, 1) := by decide +kernel
def y_Str_isLatin1 : MethodName := ⟨"java/lang/String", "isLatin1", "()Z"⟩
theorem d_Str_isLatin1_0 : decode prog_12_method_154_code 0 = .ok (.getstatic 38, 3) := by decide +kernel
theorem d_Str_isLatin1_3 : decode prog_12_method_154_code 3 = .ok (.ifCond .eq 14, 3) := by decide +kernel
theorem d_Str_isLatin1_6 : decode prog_12_method_154_code 6 = .ok (.aload_n 0, 1) := by decide +kernel
theorem d_Str_isLatin1_7 : decode prog_12_method_154_code 7 = .ok (.getfield 15, 3) := by decide +kernel
theorem d_Str_isLatin1_10 : decode prog_12_method_154_code 10 = .ok (.ifCond .ne 7, 3) := by decide +kernel
theorem d_Str_isLatin1_13 : decode prog_12_method_154_code 13 = .ok (.iconst 1, 1) := by decide +kernel
theorem d_Str_isLatin1_14 : decode prog_12_method_154_code 14 = .ok (.goto 4, 3) := by decide +kernel
theorem d_Str_isLatin1_17 : decode prog_12_method_154_code 17 = .ok (.iconst 0, 1) := by decide +kernel
theorem d_Str_isLatin1_18 : decode prog_12_method_154_code 18 = .ok (.ireturn, 1) := by decide +kernel
def y_Str_length : MethodName := ⟨"java/lang/String", "length", "()I"⟩
theorem d_Str_length_0 : decode prog_12_method_54_code 0 = .ok (.aload_n 0, 1) := by decide +kernel
theorem d_Str_length_1 : decode prog_12_method_54_code 1 = .ok (.getfield 9, 3) := by decide +kernel
theorem d_Str_length_4 : decode prog_12_method_54_code 4 = .ok (.arraylength, 1) := by decide +kernel
theorem d_Str_length_5 : decode prog_12_method_54_code 5 = .ok (.aload_n 0, 1) := by decide +kernel
theorem d_Str_length_6 : decode prog_12_method_54_code 6 = .ok (.invokevirtual 335, 3) := by decide +kernel
theorem d_Str_length_9 : decode prog_12_method_54_code 9 = .ok (.ishr, 1) := by decide +kernel
theorem d_Str_length_10 : decode prog_12_method_54_code 10 = .ok (.ireturn, 1) := by decide +kernel
def y_Pre_check : MethodName := ⟨"jdk/internal/util/Preconditions", "checkIndex", "(IILjava/util/function/BiFunction;)I"⟩
theorem d_Pre_check_0 : decode prog_16_method_11_code 0 = .ok (.iload_n 0, 1) := by decide +kernel
theorem d_Pre_check_1 : decode prog_16_method_11_code 1 = .ok (.ifCond .lt 8, 3) := by decide +kernel
theorem d_Pre_check_4 : decode prog_16_method_11_code 4 = .ok (.iload_n 0, 1) := by decide +kernel
theorem d_Pre_check_5 : decode prog_16_method_11_code 5 = .ok (.iload_n 1, 1) := by decide +kernel
theorem d_Pre_check_6 : decode prog_16_method_11_code 6 = .ok (.if_icmp .lt 10, 3) := by decide +kernel
theorem d_Pre_check_9 : decode prog_16_method_11_code 9 = .ok (.aload_n 2, 1) := by decide +kernel
theorem d_Pre_check_10 : decode prog_16_method_11_code 10 = .ok (.iload_n 0, 1) := by decide +kernel
theorem d_Pre_check_11 : decode prog_16_method_11_code 11 = .ok (.iload_n 1, 1) := by decide +kernel
theorem d_Pre_check_12 : decode prog_16_method_11_code 12 = .ok (.invokestatic 95, 3) := by decide +kernel
theorem d_Pre_check_15 : decode prog_16_method_11_code 15 = .ok (.athrow, 1) := by decide +kernel
theorem d_Pre_check_16 : decode prog_16_method_11_code 16 = .ok (.iload_n 0, 1) := by decide +kernel
theorem d_Pre_check_17 : decode prog_16_method_11_code 17 = .ok (.ireturn, 1) := by decide +kernel
def y_Str_check : MethodName := ⟨"java/lang/String", "checkIndex", "(II)V"⟩
theorem d_Str_check_0 : decode prog_12_method_155_code 0 = .ok (.iload_n 0, 1) := by decide +kernel
theorem d_Str_check_1 : decode prog_12_method_155_code 1 = .ok (.iload_n 1, 1) := by decide +kernel
theorem d_Str_check_2 : decode prog_12_method_155_code 2 = .ok (.getstatic 1053, 3) := by decide +kernel
theorem d_Str_check_5 : decode prog_12_method_155_code 5 = .ok (.invokestatic 1059, 3) := by decide +kernel
theorem d_Str_check_8 : decode prog_12_method_155_code 8 = .ok (.pop, 1) := by decide +kernel
theorem d_Str_check_9 : decode prog_12_method_155_code 9 = .ok (.return_, 1) := by decide +kernel
def y_Lat_charAt : MethodName := ⟨"java/lang/StringLatin1", "charAt", "([BI)C"⟩
theorem d_Lat_charAt_0 : decode prog_13_method_2_code 0 = .ok (.iload_n 1, 1) := by decide +kernel
theorem d_Lat_charAt_1 : decode prog_13_method_2_code 1 = .ok (.aload_n 0, 1) := by decide +kernel
theorem d_Lat_charAt_2 : decode prog_13_method_2_code 2 = .ok (.arraylength, 1) := by decide +kernel
theorem d_Lat_charAt_3 : decode prog_13_method_2_code 3 = .ok (.invokestatic 9, 3) := by decide +kernel
theorem d_Lat_charAt_6 : decode prog_13_method_2_code 6 = .ok (.aload_n 0, 1) := by decide +kernel
theorem d_Lat_charAt_7 : decode prog_13_method_2_code 7 = .ok (.iload_n 1, 1) := by decide +kernel
theorem d_Lat_charAt_8 : decode prog_13_method_2_code 8 = .ok (.baload, 1) := by decide +kernel
theorem d_Lat_charAt_9 : decode prog_13_method_2_code 9 = .ok (.sipush 255, 3) := by decide +kernel
theorem d_Lat_charAt_12 : decode prog_13_method_2_code 12 = .ok (.iand, 1) := by decide +kernel
theorem d_Lat_charAt_13 : decode prog_13_method_2_code 13 = .ok (.i2c, 1) := by decide +kernel
theorem d_Lat_charAt_14 : decode prog_13_method_2_code 14 = .ok (.ireturn, 1) := by decide +kernel
def y_Str_charAt : MethodName := ⟨"java/lang/String", "charAt", "(I)C"⟩
theorem d_Str_charAt_0 : decode prog_12_method_56_code 0 = .ok (.aload_n 0, 1) := by decide +kernel
theorem d_Str_charAt_1 : decode prog_12_method_56_code 1 = .ok (.invokevirtual 492, 3) := by decide +kernel
theorem d_Str_charAt_4 : decode prog_12_method_56_code 4 = .ok (.ifCond .eq 12, 3) := by decide +kernel
theorem d_Str_charAt_7 : decode prog_12_method_56_code 7 = .ok (.aload_n 0, 1) := by decide +kernel
theorem d_Str_charAt_8 : decode prog_12_method_56_code 8 = .ok (.getfield 9, 3) := by decide +kernel
theorem d_Str_charAt_11 : decode prog_12_method_56_code 11 = .ok (.iload_n 1, 1) := by decide +kernel
theorem d_Str_charAt_12 : decode prog_12_method_56_code 12 = .ok (.invokestatic 495, 3) := by decide +kernel
theorem d_Str_charAt_15 : decode prog_12_method_56_code 15 = .ok (.ireturn, 1) := by decide +kernel
theorem d_Str_charAt_16 : decode prog_12_method_56_code 16 = .ok (.aload_n 0, 1) := by decide +kernel
theorem d_Str_charAt_17 : decode prog_12_method_56_code 17 = .ok (.getfield 9, 3) := by decide +kernel
theorem d_Str_charAt_20 : decode prog_12_method_56_code 20 = .ok (.iload_n 1, 1) := by decide +kernel
theorem d_Str_charAt_21 : decode prog_12_method_56_code 21 = .ok (.invokestatic 498, 3) := by decide +kernel
theorem d_Str_charAt_24 : decode prog_12_method_56_code 24 = .ok (.ireturn, 1) := by decide +kernel
section STRROWS
variable {ρ : Type} {X : CX} {p : Program} {l : Launch} {e : Env} {R : Room} {s : State} {m : MethodId} {args : Array Value} {below : List Frame} {meth : Method} {c : Code} {cc : ByteArray} {own : String} {nL ck sk : Nat} {Qf : ρ → Mem → State → Prop} {pc : Nat} {ls : List (Nat × Value)} {rest : List Value} {σ : Mem} {o : Option (ρ × Mem)}
theorem g_stZ (F : FR p s m args c cc nL own X) {index : Nat} (hlk : Cond.fieldLink own index "java/lang/String" "COMPACT_STRINGS" "Z" ∈ gw) (d : decode cc pc = .ok (.getstatic index, 3))
    (k : G X p l e R s m args below meth c nL ck sk Qf (pc + 3) ls (.int 1 :: rest) σ o) : G X p l e R s m args below meth c nL ck sk Qf pc ls rest σ o :=
  fun r σ' ho H locs la hR hS hl => va_gets F.1 F.2.1 F.2.2.2.2.2.2.2.2.2.2.2.1 hS F.2.2.2.1 (F.2.2.2.2.1 _ hlk) (fun _ h => h) d (k r σ' ho H locs la hR hS hl)
theorem g_stQ (F : FR p s m args c cc nL own X) {index : Nat} (hlk : Cond.fieldLink own index "jdk/internal/util/Preconditions" "SIOOBE_FORMATTER" "Ljava/util/function/BiFunction;" ∈ gw) (d : decode cc pc = .ok (.getstatic index, 3))
    (k : ∀ v : Value, (v = .null ∨ ∃ t, v = .ref t) → G X p l e R s m args below meth c nL ck sk Qf (pc + 3) ls (v :: rest) σ o) : G X p l e R s m args below meth c nL ck sk Qf pc ls rest σ o :=
  fun r σ' ho H locs la hR hS hl => by
    rcases F.2.2.2.2.2.2.2.2.2.2.2.2 with h | ⟨t, h⟩
    · exact va_gets F.1 F.2.1 h hS F.2.2.2.1 (F.2.2.2.2.1 _ hlk) (fun _ h => h) d (k _ (Or.inl rfl) r σ' ho H locs la hR hS hl)
    · exact va_gets F.1 F.2.1 h hS F.2.2.2.1 (F.2.2.2.2.1 _ hlk) (fun _ h => h) d (k _ (Or.inr ⟨t, rfl⟩) r σ' ho H locs la hR hS hl)
theorem g_stC (F : FR p s m args c cc nL own X) {index w : Nat} (hw : w < 6) (hlk : Cond.fieldLink own index "java/lang/String" "coder" "B" ∈ gw) (d : decode cc pc = .ok (.getfield index, 3))
    (k : G X p l e R s m args below meth c nL ck sk Qf (pc + 3) ls (.int 0 :: rest) σ o) : G X p l e R s m args below meth c nL ck sk Qf pc ls (.ref (xk X w) :: rest) σ o :=
  fun r σ' ho H locs la hR hS hl => vk_getf F.1 F.2.1 (F.2.2.2.2.2.2.2.2.2.1.1 w hw).2.1 hS F.2.2.2.1 (F.2.2.2.2.1 _ hlk) (fun _ h => h) d (k r σ' ho H locs la hR hS hl)
theorem g_stV (F : FR p s m args c cc nL own X) {index w : Nat} (hw : w < 6) (hlk : Cond.fieldLink own index "java/lang/String" "value" "[B" ∈ gw) (d : decode cc pc = .ok (.getfield index, 3))
    (k : G X p l e R s m args below meth c nL ck sk Qf (pc + 3) ls (.ref (xk X (w + 6)) :: rest) σ o) : G X p l e R s m args below meth c nL ck sk Qf pc ls (.ref (xk X w) :: rest) σ o :=
  fun r σ' ho H locs la hR hS hl => vk_getf F.1 F.2.1 (F.2.2.2.2.2.2.2.2.2.1.1 w hw).2.2.1 hS F.2.2.2.1 (F.2.2.2.2.1 _ hlk) (fun _ h => h) d (k r σ' ho H locs la hR hS hl)
theorem g_stL (F : FR p s m args c cc nL own X) {w : Nat} (hw : w < 6) (d : decode cc pc = .ok (.arraylength, 1))
    (k : G X p l e R s m args below meth c nL ck sk Qf (pc + 1) ls (.int (nI (lenS.getD w 0)) :: rest) σ o) : G X p l e R s m args below meth c nL ck sk Qf pc ls (.ref (xk X (w + 6)) :: rest) σ o :=
  fun r σ' ho H locs la hR hS hl => va_tlen F.1 F.2.1 (F.2.2.2.2.2.2.2.2.2.1.1 w hw).2.2.2 hS rfl d (k r σ' ho H locs la hR hS hl)
theorem g_stB (F : FR p s m args c cc nL own X) {w : Nat} {i : Int32} (hw : w < 6) (hi : ib i (lenS.getD w 0)) (d : decode cc pc = .ok (.baload, 1))
    (k : G X p l e R s m args below meth c nL ck sk Qf (pc + 1) ls (.int ((bytS.getD w []).getD i.toNatClampNeg 0) :: rest) σ o) : G X p l e R s m args below meth c nL ck sk Qf pc ls (.int i :: .ref (xk X (w + 6)) :: rest) σ o :=
  fun r σ' ho H locs la hR hS hl => va_tb F.1 F.2.1 (F.2.2.2.2.2.2.2.2.2.1.1 w hw).2.2.2 hS (vp_in_iff.mpr hi) rfl d (k r σ' ho H locs la hR hS hl)
theorem g_i2c (F : FR p s m args c cc nL own X) {x v : Int32} (hv : (x.toUInt32 % 65536).toInt32 = v) (d : decode cc pc = .ok (.i2c, 1))
    (k : G X p l e R s m args below meth c nL ck sk Qf (pc + 1) ls (.int v :: rest) σ o) : G X p l e R s m args below meth c nL ck sk Qf pc ls (.int x :: rest) σ o :=
  fun r σ' ho H locs la hR hS hl => lv_i2c F.1 F.2.1 d hv (k r σ' ho H locs la hR hS hl)
theorem g_tret (F : FR p s m args c cc nL own X) (hlk : meth.locks = false) {ty : FieldType} (hr : meth.sig.returnType = some ty) {v : Int32} (hn : narrow ty (.int v) = .int v) (d : decode cc pc = .ok (.ireturn, 1)) : G X p l e R s m args below meth c nL 0 0 (QI X below args s vI) pc ls [.int v] σ (some (v, σ)) :=
  fun r σ' ho H locs la hR hS hl => by
    cases ho
    exact W.zret F.1 F.2.1 hr hn (fun t ht _ => ⟨rfl, by rw [ht]; exact hR, hS.F ht⟩) hS.2.2 d hlk
end STRROWS
theorem bytS_ok : ∀ w, w < 6 → ∀ j, j < lenS.getD w 0 → ((((bytS.getD w []).getD j 0) &&& 255).toUInt32 % 65536).toInt32 = (bytS.getD w []).getD j 0 ∧ narrow .char (.int ((bytS.getD w []).getD j 0)) = .int ((bytS.getD w []).getD j 0) := by decide +kernel
theorem lenS_sh : ∀ w, w < 6 → nI (lenS.getD w 0) >>> ((0 : Int32) &&& 31) = nI (lenS.getD w 0) := by decide +kernel
def f_Str_length (w : Nat) (σ : Mem) : Option (Int32 × Mem) := if w < 6 then some (nI (lenS.getD w 0), σ) else none
def f_Str_charAt (w : Nat) (i : Int32) (σ : Mem) : Option (Int32 × Mem) := if w < 6 then if ib i (lenS.getD w 0) then some ((bytS.getD w []).getD i.toNatClampNeg 0, σ) else none else none
theorem cv_S_335 : CSV "java/lang/String" 335 y_Str_coder prog_12_method_152_code 1 (some .byte) 0 := ⟨gw_I 641 (by decide +kernel) rfl, gw_I 642 (by decide +kernel) rfl, gw_I 643 (by decide +kernel) rfl, gw_I 81 (by decide +kernel) rfl, gw_I 644 (by decide +kernel) rfl, ⟨by decide +kernel, by decide +kernel⟩, by decide +kernel⟩
theorem cv_S_492 : CSV "java/lang/String" 492 y_Str_isLatin1 prog_12_method_154_code 1 (some .boolean) 0 := ⟨gw_I 651 (by decide +kernel) rfl, gw_I 652 (by decide +kernel) rfl, gw_I 653 (by decide +kernel) rfl, gw_I 81 (by decide +kernel) rfl, gw_I 654 (by decide +kernel) rfl, ⟨by decide +kernel, by decide +kernel⟩, by decide +kernel⟩
theorem cs_S_495 : CSS "java/lang/String" 495 y_Lat_charAt prog_13_method_2_code 2 (some .char) 2 := ⟨gw_I 655 (by decide +kernel) rfl, gw_I 656 (by decide +kernel) rfl, gw_I 82 (by decide +kernel) rfl, gw_I 657 (by decide +kernel) rfl, ⟨by decide +kernel, by decide +kernel⟩, by decide +kernel⟩
theorem cs_T_9 : CSS "java/lang/StringLatin1" 9 y_Str_check prog_12_method_155_code 2 none 2 := ⟨gw_I 658 (by decide +kernel) rfl, gw_I 659 (by decide +kernel) rfl, gw_I 81 (by decide +kernel) rfl, gw_I 660 (by decide +kernel) rfl, ⟨by decide +kernel, by decide +kernel⟩, by decide +kernel⟩
theorem cs_S_1059 : CSS "java/lang/String" 1059 y_Pre_check prog_16_method_11_code 3 (some .int) 3 := ⟨gw_I 663 (by decide +kernel) rfl, gw_I 664 (by decide +kernel) rfl, gw_I 83 (by decide +kernel) rfl, gw_I 665 (by decide +kernel) rfl, ⟨by decide +kernel, by decide +kernel⟩, by decide +kernel⟩
set_option maxRecDepth 100000 in
set_option maxHeartbeats 4000000 in
theorem c_Str_coder {X : CX} (l : Launch) (w : Nat) (hw : w < 6) (σ : Mem) : CT X l y_Str_coder prog_12_method_152_code 1 (some .byte) 0 vI [.ref (xk X w)] σ (some (0, σ)) := by
  refine CT_of (by decide +kernel) (Nat.le_of_ble_eq_true rfl) ?_
  intro p e s m args below meth c F hlk hr
  have F : FR p s m args c prog_12_method_152_code 1 "java/lang/String" X := F
  show G X p l e (rmD 0) s m args below meth c 1 0 0 (QI X below args s vI) 0 [(0, .ref (xk X w))] [] σ _
  refine g_stZ F (gw_I 645 (by decide +kernel) rfl) d_Str_coder_0 ?_
  refine g_pf (q := (1 : Int32) = 0) (by decide) (g_if_eq F (tgt := 13) d_Str_coder_3 (by decide) (fun _ => g_no) (fun _ => ?_))
  refine g_aload_n F d_Str_coder_6 0 rfl ?_
  refine g_stC F hw (gw_I 1212 (by decide +kernel) rfl) d_Str_coder_7 ?_
  refine g_goto F (tgt := 14) d_Str_coder_10 (by decide) ?_
  exact g_tret F hlk hr rfl d_Str_coder_14
set_option maxRecDepth 100000 in
set_option maxHeartbeats 4000000 in
theorem c_Str_isLatin1 {X : CX} (l : Launch) (w : Nat) (hw : w < 6) (σ : Mem) : CT X l y_Str_isLatin1 prog_12_method_154_code 1 (some .boolean) 0 vI [.ref (xk X w)] σ (some (1, σ)) := by
  refine CT_of (by decide +kernel) (Nat.le_of_ble_eq_true rfl) ?_
  intro p e s m args below meth c F hlk hr
  have F : FR p s m args c prog_12_method_154_code 1 "java/lang/String" X := F
  show G X p l e (rmD 0) s m args below meth c 1 0 0 (QI X below args s vI) 0 [(0, .ref (xk X w))] [] σ _
  refine g_stZ F (gw_I 645 (by decide +kernel) rfl) d_Str_isLatin1_0 ?_
  refine g_pf (q := (1 : Int32) = 0) (by decide) (g_if_eq F (tgt := 17) d_Str_isLatin1_3 (by decide) (fun _ => g_no) (fun _ => ?_))
  refine g_aload_n F d_Str_isLatin1_6 0 rfl ?_
  refine g_stC F hw (gw_I 1212 (by decide +kernel) rfl) d_Str_isLatin1_7 ?_
  refine g_pt (q := (0 : Int32) = 0) (by decide) (g_if_ne F (tgt := 17) d_Str_isLatin1_10 (by decide) (fun _ => ?_) (fun _ => g_no))
  refine g_iconst F (v := 1) d_Str_isLatin1_13 (by decide) ?_
  refine g_goto F (tgt := 18) d_Str_isLatin1_14 (by decide) ?_
  exact g_tret F hlk hr rfl d_Str_isLatin1_18
set_option maxRecDepth 100000 in
set_option maxHeartbeats 4000000 in
theorem c_Str_length {X : CX} (l : Launch) (w : Nat) (hw : w < 6) (σ : Mem) : CT X l y_Str_length prog_12_method_54_code 1 (some .int) 1 vI [.ref (xk X w)] σ (f_Str_length w σ) := by
  refine CT_of (by decide +kernel) (Nat.le_of_ble_eq_true rfl) ?_
  intro p e s m args below meth c F hlk hr
  have F : FR p s m args c prog_12_method_54_code 1 "java/lang/String" X := F
  show G X p l e (rmD 1) s m args below meth c 1 0 0 (QI X below args s vI) 0 [(0, .ref (xk X w))] [] σ _
  unfold f_Str_length
  rw [if_pos hw]
  refine g_aload_n F d_Str_length_0 0 rfl ?_
  refine g_stV F hw (gw_I 1211 (by decide +kernel) rfl) d_Str_length_1 ?_
  refine g_stL F hw d_Str_length_4 ?_
  refine g_aload_n F d_Str_length_5 0 rfl ?_
  refine g_callVS (kf := fun _ τ => some (nI (lenS.getD w 0), τ)) F (dp := 0) (As := []) hw (c_Str_coder l w hw σ) cv_S_335 rfl rfl rfl (Nat.le_of_ble_eq_true rfl) ⟨Nat.le_of_ble_eq_true rfl, Nat.le_of_ble_eq_true rfl⟩ ⟨Nat.zero_le _, Nat.zero_le _⟩ d_Str_length_6 (fun r2 σ2 h => ?_)
  cases h
  refine g_ishr F d_Str_length_9 ?_
  rw [lenS_sh w hw]
  exact g_tret F hlk hr rfl d_Str_length_10
set_option maxRecDepth 100000 in
set_option maxHeartbeats 4000000 in
theorem c_Pre_check {X : CX} (l : Launch) (p0 p1 : Int32) (v : Value) (hv : v = .null ∨ ∃ t, v = .ref t) (h0 : ¬ p0 < 0) (h1 : p0 < p1) (σ : Mem) : CT X l y_Pre_check prog_16_method_11_code 3 (some .int) 0 vI [.int p0, .int p1, v] σ (some (p0, σ)) := by
  have hlen : (lg_sl [.int p0, .int p1, v]).length ≤ 3 := by rcases hv with rfl | ⟨t, rfl⟩ <;> exact Nat.le_of_ble_eq_true rfl
  refine CT_of (by decide +kernel) hlen ?_
  intro p e s m args below meth c F hlk hr
  have F : FR p s m args c prog_16_method_11_code 3 "jdk/internal/util/Preconditions" X := F
  rcases hv with rfl | ⟨t, rfl⟩
  · show G X p l e (rmD 0) s m args below meth c 3 0 0 (QI X below args s vI) 0 [(0, .int p0), (1, .int p1), (2, .null)] [] σ _
    refine g_iload_n F d_Pre_check_0 0 rfl ?_
    refine g_pf h0 (g_if_lt F (tgt := 9) d_Pre_check_1 (by decide) (fun _ => g_no) (fun _ => ?_))
    refine g_iload_n F d_Pre_check_4 0 rfl ?_
    refine g_iload_n F d_Pre_check_5 1 rfl ?_
    refine g_pt h1 (g_icmp_lt F (tgt := 16) d_Pre_check_6 (by decide) (fun _ => ?_) (fun _ => g_no))
    refine g_iload_n F d_Pre_check_16 0 rfl ?_
    exact g_tret F hlk hr rfl d_Pre_check_17
  · show G X p l e (rmD 0) s m args below meth c 3 0 0 (QI X below args s vI) 0 [(0, .int p0), (1, .int p1), (2, .ref t)] [] σ _
    refine g_iload_n F d_Pre_check_0 0 rfl ?_
    refine g_pf h0 (g_if_lt F (tgt := 9) d_Pre_check_1 (by decide) (fun _ => g_no) (fun _ => ?_))
    refine g_iload_n F d_Pre_check_4 0 rfl ?_
    refine g_iload_n F d_Pre_check_5 1 rfl ?_
    refine g_pt h1 (g_icmp_lt F (tgt := 16) d_Pre_check_6 (by decide) (fun _ => ?_) (fun _ => g_no))
    refine g_iload_n F d_Pre_check_16 0 rfl ?_
    exact g_tret F hlk hr rfl d_Pre_check_17
set_option maxRecDepth 100000 in
set_option maxHeartbeats 4000000 in
theorem c_Str_check {X : CX} (l : Launch) (p0 p1 : Int32) (h0 : ¬ p0 < 0) (h1 : p0 < p1) (σ : Mem) : CT X l y_Str_check prog_12_method_155_code 2 none 1 vU [.int p0, .int p1] σ (some ((), σ)) := by
  refine CT_of (by decide +kernel) (Nat.le_of_ble_eq_true rfl) ?_
  intro p e s m args below meth c F hlk hr
  have F : FR p s m args c prog_12_method_155_code 2 "java/lang/String" X := F
  show G X p l e (rmD 1) s m args below meth c 2 0 0 (QI X below args s vU) 0 [(0, .int p0), (1, .int p1)] [] σ _
  refine g_iload_n F d_Str_check_0 0 rfl ?_
  refine g_iload_n F d_Str_check_1 1 rfl ?_
  refine g_stQ F (gw_I 661 (by decide +kernel) rfl) d_Str_check_2 (fun v hv => ?_)
  refine g_callS (kf := fun _ τ => some ((), τ)) (As := [.int p0, .int p1, v]) (rest := []) F (dp := 0) (c_Pre_check l p0 p1 v hv h0 h1 σ) cs_S_1059 rfl rfl (Nat.le_of_ble_eq_true rfl) ⟨Nat.le_of_ble_eq_true rfl, Nat.le_of_ble_eq_true rfl⟩ ⟨Nat.zero_le _, Nat.zero_le _⟩ d_Str_check_5 (fun r2 σ2 h => ?_)
  cases h
  refine g_pop F d_Str_check_8 rfl ?_
  exact g_vret F hlk hr d_Str_check_9
set_option maxRecDepth 100000 in
set_option maxHeartbeats 4000000 in
theorem c_Lat_charAt {X : CX} (l : Launch) (w : Nat) (p1 : Int32) (hw : w < 6) (hi : ib p1 (lenS.getD w 0)) (σ : Mem) : CT X l y_Lat_charAt prog_13_method_2_code 2 (some .char) 2 vI [.ref (xk X (w + 6)), .int p1] σ (some ((bytS.getD w []).getD p1.toNatClampNeg 0, σ)) := by
  refine CT_of (by decide +kernel) (Nat.le_of_ble_eq_true rfl) ?_
  intro p e s m args below meth c F hlk hr
  have F : FR p s m args c prog_13_method_2_code 2 "java/lang/StringLatin1" X := F
  show G X p l e (rmD 2) s m args below meth c 2 0 0 (QI X below args s vI) 0 [(0, .ref (xk X (w + 6))), (1, .int p1)] [] σ _
  have h0 : ¬ p1 < 0 := by rw [Int32.lt_iff_toInt_lt]; have := hi.1; simpa using this
  have hl6 : lenS.getD w 0 < 2 ^ 31 := (by decide : ∀ w, w < 6 → lenS.getD w 0 < 2 ^ 31) w hw
  have h1 : p1 < nI (lenS.getD w 0) := by rw [Int32.lt_iff_toInt_lt, nI_toInt hl6]; exact hi.2
  refine g_iload_n F d_Lat_charAt_0 1 rfl ?_
  refine g_aload_n F d_Lat_charAt_1 0 rfl ?_
  refine g_stL F hw d_Lat_charAt_2 ?_
  refine g_callS (kf := fun _ τ => some ((bytS.getD w []).getD p1.toNatClampNeg 0, τ)) (As := [.int p1, .int (nI (lenS.getD w 0))]) (rest := []) F (dp := 1) (c_Str_check l p1 _ h0 h1 σ) cs_T_9 rfl rfl (Nat.le_of_ble_eq_true rfl) ⟨Nat.le_of_ble_eq_true rfl, Nat.le_of_ble_eq_true rfl⟩ ⟨Nat.zero_le _, Nat.zero_le _⟩ d_Lat_charAt_3 (fun r2 σ2 h => ?_)
  cases h
  refine g_aload_n F d_Lat_charAt_6 0 rfl ?_
  refine g_iload_n F d_Lat_charAt_7 1 rfl ?_
  refine g_stB F hw hi d_Lat_charAt_8 ?_
  refine g_sipush F (v := 255) d_Lat_charAt_9 (by decide) ?_
  refine g_iand F d_Lat_charAt_12 ?_
  refine g_i2c F (bytS_ok w hw _ (ib_lt hi)).1 d_Lat_charAt_13 ?_
  exact g_tret F hlk hr (bytS_ok w hw _ (ib_lt hi)).2 d_Lat_charAt_14
set_option maxRecDepth 100000 in
set_option maxHeartbeats 4000000 in
theorem c_Str_charAt {X : CX} (l : Launch) (w : Nat) (p1 : Int32) (hw : w < 6) (σ : Mem) : CT X l y_Str_charAt prog_12_method_56_code 2 (some .char) 4 vI [.ref (xk X w), .int p1] σ (f_Str_charAt w p1 σ) := by
  refine CT_of (by decide +kernel) (Nat.le_of_ble_eq_true rfl) ?_
  intro p e s m args below meth c F hlk hr
  have F : FR p s m args c prog_12_method_56_code 2 "java/lang/String" X := F
  show G X p l e (rmD 4) s m args below meth c 2 0 0 (QI X below args s vI) 0 [(0, .ref (xk X w)), (1, .int p1)] [] σ _
  unfold f_Str_charAt
  rw [if_pos hw]
  refine g_gd (fun hi => ?_)
  refine g_aload_n F d_Str_charAt_0 0 rfl ?_
  refine g_callVS (kf := fun _ τ => some ((bytS.getD w []).getD p1.toNatClampNeg 0, τ)) (rest := []) F (dp := 0) (As := []) hw (c_Str_isLatin1 l w hw σ) cv_S_492 rfl rfl rfl (Nat.le_of_ble_eq_true rfl) ⟨Nat.le_of_ble_eq_true rfl, Nat.le_of_ble_eq_true rfl⟩ ⟨Nat.zero_le _, Nat.zero_le _⟩ d_Str_charAt_1 (fun r2 σ2 h => ?_)
  cases h
  refine g_pf (q := (1 : Int32) = 0) (by decide) (g_if_eq F (tgt := 16) d_Str_charAt_4 (by decide) (fun _ => g_no) (fun _ => ?_))
  refine g_aload_n F d_Str_charAt_7 0 rfl ?_
  refine g_stV F hw (gw_I 1211 (by decide +kernel) rfl) d_Str_charAt_8 ?_
  refine g_iload_n F d_Str_charAt_11 1 rfl ?_
  refine g_callS (kf := fun r τ => some (r, τ)) (As := [.ref (xk X (w + 6)), .int p1]) (rest := []) F (dp := 2) (c_Lat_charAt l w p1 hw hi σ) cs_S_495 rfl rfl (Nat.le_of_ble_eq_true rfl) ⟨Nat.le_of_ble_eq_true rfl, Nat.le_of_ble_eq_true rfl⟩ ⟨Nat.zero_le _, Nat.zero_le _⟩ d_Str_charAt_12 (fun r2 σ2 h => ?_)
  cases h
  exact g_tret F hlk hr (bytS_ok w hw _ (ib_lt hi)).2 d_Str_charAt_15
