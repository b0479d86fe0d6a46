def y_Mat_floorMod : MethodName := ⟨"java/lang/Math", "floorMod", "(II)I"⟩
theorem d_Mat_floorMod_0 : decode prog_11_method_50_code 0 = .ok (.iload_n 0, 1) := by decide +kernel
theorem d_Mat_floorMod_1 : decode prog_11_method_50_code 1 = .ok (.iload_n 1, 1) := by decide +kernel
theorem d_Mat_floorMod_2 : decode prog_11_method_50_code 2 = .ok (.irem, 1) := by decide +kernel
theorem d_Mat_floorMod_3 : decode prog_11_method_50_code 3 = .ok (.istore_n 2, 1) := by decide +kernel
theorem d_Mat_floorMod_4 : decode prog_11_method_50_code 4 = .ok (.iload_n 0, 1) := by decide +kernel
theorem d_Mat_floorMod_5 : decode prog_11_method_50_code 5 = .ok (.iload_n 1, 1) := by decide +kernel
theorem d_Mat_floorMod_6 : decode prog_11_method_50_code 6 = .ok (.ixor, 1) := by decide +kernel
theorem d_Mat_floorMod_7 : decode prog_11_method_50_code 7 = .ok (.ifCond .ge 11, 3) := by decide +kernel
theorem d_Mat_floorMod_10 : decode prog_11_method_50_code 10 = .ok (.iload_n 2, 1) := by decide +kernel
theorem d_Mat_floorMod_11 : decode prog_11_method_50_code 11 = .ok (.ifCond .eq 7, 3) := by decide +kernel
theorem d_Mat_floorMod_14 : decode prog_11_method_50_code 14 = .ok (.iload_n 2, 1) := by decide +kernel
theorem d_Mat_floorMod_15 : decode prog_11_method_50_code 15 = .ok (.iload_n 1, 1) := by decide +kernel
theorem d_Mat_floorMod_16 : decode prog_11_method_50_code 16 = .ok (.iadd, 1) := by decide +kernel
theorem d_Mat_floorMod_17 : decode prog_11_method_50_code 17 = .ok (.ireturn, 1) := by decide +kernel
theorem d_Mat_floorMod_18 : decode prog_11_method_50_code 18 = .ok (.iload_n 2, 1) := by decide +kernel
theorem d_Mat_floorMod_19 : decode prog_11_method_50_code 19 = .ok (.ireturn, 1) := by decide +kernel
def f_Mat_floorMod (p0 : Int32) (p1 : Int32) (σ : Mem) : Option (Int32 × Mem) :=
  if p1 = 0 then none else
  lt (p0 - p0 / p1 * p1) fun v1 =>
  if 0 ≤ (p0 ^^^ p1) then some (v1, σ) else if v1 = 0 then some (v1, σ) else some (v1 + p1, σ)
set_option maxRecDepth 100000 in
set_option maxHeartbeats 4000000 in
theorem c_Mat_floorMod {X : CX} (l : Launch) (p0 : Int32) (p1 : Int32)  (σ : Mem) : CT X l y_Mat_floorMod prog_11_method_50_code 3 (some .int) 0 vI [.int p0, .int p1] σ (f_Mat_floorMod p0 p1 σ) := by
  refine CT_of (by decide +kernel) (Nat.le_of_ble_eq_true rfl) ?_
  intro p e s m args below meth c F hlk hr
  have F : FR p s m args c prog_11_method_50_code 3 "java/lang/Math" X := F
  show G X p l e (rmD 0) s m args below meth c 3 0 0 (QI X below args s vI) 0 [(0, .int p0), (1, .int p1)] [] σ _
  unfold f_Mat_floorMod
  refine g_iload_n F d_Mat_floorMod_0 0 rfl ?_
  refine g_iload_n F d_Mat_floorMod_1 1 rfl ?_
  refine g_irem F d_Mat_floorMod_2 ?_
  refine g_ltI (fun v1 _ => ?_)
  refine g_istore_n F (ls' := [(2, .int v1), (0, .int p0), (1, .int p1)]) d_Mat_floorMod_3 (by decide) rfl ?_
  refine g_iload_n F d_Mat_floorMod_4 1 rfl ?_
  refine g_iload_n F d_Mat_floorMod_5 2 rfl ?_
  refine g_ixor F d_Mat_floorMod_6 ?_
  refine g_if_ge F (tgt := 18) d_Mat_floorMod_7 (by decide) (fun h1 => ?_) (fun h2 => ?_)
  · refine g_iload_n F d_Mat_floorMod_18 0 rfl ?_
    exact g_iret F hlk hr d_Mat_floorMod_19
  refine g_iload_n F d_Mat_floorMod_10 0 rfl ?_
  refine g_if_eq F (tgt := 18) d_Mat_floorMod_11 (by decide) (fun h3 => ?_) (fun h4 => ?_)
  · refine g_iload_n F d_Mat_floorMod_18 0 rfl ?_
    exact g_iret F hlk hr d_Mat_floorMod_19
  refine g_iload_n F d_Mat_floorMod_14 0 rfl ?_
  refine g_iload_n F d_Mat_floorMod_15 2 rfl ?_
  refine g_iadd F d_Mat_floorMod_16 ?_
  exact g_iret F hlk hr d_Mat_floorMod_17
def y_Mat_max : MethodName := ⟨"java/lang/Math", "max", "(II)I"⟩
theorem d_Mat_max_0 : decode prog_11_method_65_code 0 = .ok (.iload_n 0, 1) := by decide +kernel
theorem d_Mat_max_1 : decode prog_11_method_65_code 1 = .ok (.iload_n 1, 1) := by decide +kernel
theorem d_Mat_max_2 : decode prog_11_method_65_code 2 = .ok (.if_icmp .lt 7, 3) := by decide +kernel
theorem d_Mat_max_5 : decode prog_11_method_65_code 5 = .ok (.iload_n 0, 1) := by decide +kernel
theorem d_Mat_max_6 : decode prog_11_method_65_code 6 = .ok (.goto 4, 3) := by decide +kernel
theorem d_Mat_max_9 : decode prog_11_method_65_code 9 = .ok (.iload_n 1, 1) := by decide +kernel
theorem d_Mat_max_10 : decode prog_11_method_65_code 10 = .ok (.ireturn, 1) := by decide +kernel
def f_Mat_max (p0 : Int32) (p1 : Int32) (σ : Mem) : Option (Int32 × Mem) :=
  if p0 < p1 then some (p1, σ) else some (p0, σ)
set_option maxRecDepth 100000 in
set_option maxHeartbeats 4000000 in
theorem c_Mat_max {X : CX} (l : Launch) (p0 : Int32) (p1 : Int32)  (σ : Mem) : CT X l y_Mat_max prog_11_method_65_code 2 (some .int) 0 vI [.int p0, .int p1] σ (f_Mat_max p0 p1 σ) := by
  refine CT_of (by decide +kernel) (Nat.le_of_ble_eq_true rfl) ?_
  intro p e s m args below meth c F hlk hr
  have F : FR p s m args c prog_11_method_65_code 2 "java/lang/Math" X := F
  show G X p l e (rmD 0) s m args below meth c 2 0 0 (QI X below args s vI) 0 [(0, .int p0), (1, .int p1)] [] σ _
  unfold f_Mat_max
  refine g_iload_n F d_Mat_max_0 0 rfl ?_
  refine g_iload_n F d_Mat_max_1 1 rfl ?_
  refine g_icmp_lt F (tgt := 9) d_Mat_max_2 (by decide) (fun h1 => ?_) (fun h2 => ?_)
  · refine g_iload_n F d_Mat_max_9 1 rfl ?_
    exact g_iret F hlk hr d_Mat_max_10
  refine g_iload_n F d_Mat_max_5 0 rfl ?_
  refine g_goto F (tgt := 10) d_Mat_max_6 (by decide) ?_
  exact g_iret F hlk hr d_Mat_max_10
def y_Mat_min : MethodName := ⟨"java/lang/Math", "min", "(II)I"⟩
theorem d_Mat_min_0 : decode prog_11_method_69_code 0 = .ok (.iload_n 0, 1) := by decide +kernel
theorem d_Mat_min_1 : decode prog_11_method_69_code 1 = .ok (.iload_n 1, 1) := by decide +kernel
theorem d_Mat_min_2 : decode prog_11_method_69_code 2 = .ok (.if_icmp .gt 7, 3) := by decide +kernel
theorem d_Mat_min_5 : decode prog_11_method_69_code 5 = .ok (.iload_n 0, 1) := by decide +kernel
theorem d_Mat_min_6 : decode prog_11_method_69_code 6 = .ok (.goto 4, 3) := by decide +kernel
theorem d_Mat_min_9 : decode prog_11_method_69_code 9 = .ok (.iload_n 1, 1) := by decide +kernel
theorem d_Mat_min_10 : decode prog_11_method_69_code 10 = .ok (.ireturn, 1) := by decide +kernel
def f_Mat_min (p0 : Int32) (p1 : Int32) (σ : Mem) : Option (Int32 × Mem) :=
  if p1 < p0 then some (p1, σ) else some (p0, σ)
set_option maxRecDepth 100000 in
set_option maxHeartbeats 4000000 in
theorem c_Mat_min {X : CX} (l : Launch) (p0 : Int32) (p1 : Int32)  (σ : Mem) : CT X l y_Mat_min prog_11_method_69_code 2 (some .int) 0 vI [.int p0, .int p1] σ (f_Mat_min p0 p1 σ) := by
  refine CT_of (by decide +kernel) (Nat.le_of_ble_eq_true rfl) ?_
  intro p e s m args below meth c F hlk hr
  have F : FR p s m args c prog_11_method_69_code 2 "java/lang/Math" X := F
  show G X p l e (rmD 0) s m args below meth c 2 0 0 (QI X below args s vI) 0 [(0, .int p0), (1, .int p1)] [] σ _
  unfold f_Mat_min
  refine g_iload_n F d_Mat_min_0 0 rfl ?_
  refine g_iload_n F d_Mat_min_1 1 rfl ?_
  refine g_icmp_gt F (tgt := 9) d_Mat_min_2 (by decide) (fun h1 => ?_) (fun h2 => ?_)
  · refine g_iload_n F d_Mat_min_9 1 rfl ?_
    exact g_iret F hlk hr d_Mat_min_10
  refine g_iload_n F d_Mat_min_5 0 rfl ?_
  refine g_goto F (tgt := 10) d_Mat_min_6 (by decide) ?_
  exact g_iret F hlk hr d_Mat_min_10
def y_Mat_floorDiv : MethodName := ⟨"java/lang/Math", "floorDiv", "(II)I"⟩
theorem d_Mat_floorDiv_0 : decode prog_11_method_47_code 0 = .ok (.iload_n 0, 1) := by decide +kernel
theorem d_Mat_floorDiv_1 : decode prog_11_method_47_code 1 = .ok (.iload_n 1, 1) := by decide +kernel
theorem d_Mat_floorDiv_2 : decode prog_11_method_47_code 2 = .ok (.idiv, 1) := by decide +kernel
theorem d_Mat_floorDiv_3 : decode prog_11_method_47_code 3 = .ok (.istore_n 2, 1) := by decide +kernel
theorem d_Mat_floorDiv_4 : decode prog_11_method_47_code 4 = .ok (.iload_n 0, 1) := by decide +kernel
theorem d_Mat_floorDiv_5 : decode prog_11_method_47_code 5 = .ok (.iload_n 1, 1) := by decide +kernel
theorem d_Mat_floorDiv_6 : decode prog_11_method_47_code 6 = .ok (.ixor, 1) := by decide +kernel
theorem d_Mat_floorDiv_7 : decode prog_11_method_47_code 7 = .ok (.ifCond .ge 14, 3) := by decide +kernel
theorem d_Mat_floorDiv_10 : decode prog_11_method_47_code 10 = .ok (.iload_n 2, 1) := by decide +kernel
theorem d_Mat_floorDiv_11 : decode prog_11_method_47_code 11 = .ok (.iload_n 1, 1) := by decide +kernel
theorem d_Mat_floorDiv_12 : decode prog_11_method_47_code 12 = .ok (.imul, 1) := by decide +kernel
theorem d_Mat_floorDiv_13 : decode prog_11_method_47_code 13 = .ok (.iload_n 0, 1) := by decide +kernel
theorem d_Mat_floorDiv_14 : decode prog_11_method_47_code 14 = .ok (.if_icmp .eq 7, 3) := by decide +kernel
theorem d_Mat_floorDiv_17 : decode prog_11_method_47_code 17 = .ok (.iload_n 2, 1) := by decide +kernel
theorem d_Mat_floorDiv_18 : decode prog_11_method_47_code 18 = .ok (.iconst 1, 1) := by decide +kernel
theorem d_Mat_floorDiv_19 : decode prog_11_method_47_code 19 = .ok (.isub, 1) := by decide +kernel
theorem d_Mat_floorDiv_20 : decode prog_11_method_47_code 20 = .ok (.ireturn, 1) := by decide +kernel
theorem d_Mat_floorDiv_21 : decode prog_11_method_47_code 21 = .ok (.iload_n 2, 1) := by decide +kernel
theorem d_Mat_floorDiv_22 : decode prog_11_method_47_code 22 = .ok (.ireturn, 1) := by decide +kernel
def f_Mat_floorDiv (p0 : Int32) (p1 : Int32) (σ : Mem) : Option (Int32 × Mem) :=
  if p1 = 0 then none else
  lt (p0 / p1) fun v1 =>
  if 0 ≤ (p0 ^^^ p1) then some (v1, σ) else if (v1 * p1) = p0 then some (v1, σ) else some (v1 - (1 : Int32), σ)
set_option maxRecDepth 100000 in
set_option maxHeartbeats 4000000 in
theorem c_Mat_floorDiv {X : CX} (l : Launch) (p0 : Int32) (p1 : Int32)  (σ : Mem) : CT X l y_Mat_floorDiv prog_11_method_47_code 3 (some .int) 0 vI [.int p0, .int p1] σ (f_Mat_floorDiv p0 p1 σ) := by
  refine CT_of (by decide +kernel) (Nat.le_of_ble_eq_true rfl) ?_
  intro p e s m args below meth c F hlk hr
  have F : FR p s m args c prog_11_method_47_code 3 "java/lang/Math" X := F
  show G X p l e (rmD 0) s m args below meth c 3 0 0 (QI X below args s vI) 0 [(0, .int p0), (1, .int p1)] [] σ _
  unfold f_Mat_floorDiv
  refine g_iload_n F d_Mat_floorDiv_0 0 rfl ?_
  refine g_iload_n F d_Mat_floorDiv_1 1 rfl ?_
  refine g_idiv F d_Mat_floorDiv_2 ?_
  refine g_ltI (fun v1 _ => ?_)
  refine g_istore_n F (ls' := [(2, .int v1), (0, .int p0), (1, .int p1)]) d_Mat_floorDiv_3 (by decide) rfl ?_
  refine g_iload_n F d_Mat_floorDiv_4 1 rfl ?_
  refine g_iload_n F d_Mat_floorDiv_5 2 rfl ?_
  refine g_ixor F d_Mat_floorDiv_6 ?_
  refine g_if_ge F (tgt := 21) d_Mat_floorDiv_7 (by decide) (fun h1 => ?_) (fun h2 => ?_)
  · refine g_iload_n F d_Mat_floorDiv_21 0 rfl ?_
    exact g_iret F hlk hr d_Mat_floorDiv_22
  refine g_iload_n F d_Mat_floorDiv_10 0 rfl ?_
  refine g_iload_n F d_Mat_floorDiv_11 2 rfl ?_
  refine g_imul F d_Mat_floorDiv_12 ?_
  refine g_iload_n F d_Mat_floorDiv_13 1 rfl ?_
  refine g_icmp_eq F (tgt := 21) d_Mat_floorDiv_14 (by decide) (fun h3 => ?_) (fun h4 => ?_)
  · refine g_iload_n F d_Mat_floorDiv_21 0 rfl ?_
    exact g_iret F hlk hr d_Mat_floorDiv_22
  refine g_iload_n F d_Mat_floorDiv_17 0 rfl ?_
  refine g_iconst F (v := 1) d_Mat_floorDiv_18 (by decide) ?_
  refine g_isub F d_Mat_floorDiv_19 ?_
  exact g_iret F hlk hr d_Mat_floorDiv_20
