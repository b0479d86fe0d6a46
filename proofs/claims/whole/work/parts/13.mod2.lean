def y_M_addGiven : MethodName := ⟨"SensorHubModel", "addGiven", "(IIIII)I"⟩
theorem d_M_addGiven_0 : decode prog_10_method_33_code 0 = .ok (.bipush 11, 2) := by decide +kernel
theorem d_M_addGiven_2 : decode prog_10_method_33_code 2 = .ok (.bipush 19, 2) := by decide +kernel
theorem d_M_addGiven_4 : decode prog_10_method_33_code 4 = .ok (.aload_n 0, 1) := by decide +kernel
theorem d_M_addGiven_5 : decode prog_10_method_33_code 5 = .ok (.getfield 7, 3) := by decide +kernel
theorem d_M_addGiven_8 : decode prog_10_method_33_code 8 = .ok (.iconst 1, 1) := by decide +kernel
theorem d_M_addGiven_9 : decode prog_10_method_33_code 9 = .ok (.iaload, 1) := by decide +kernel
theorem d_M_addGiven_10 : decode prog_10_method_33_code 10 = .ok (.imul, 1) := by decide +kernel
theorem d_M_addGiven_11 : decode prog_10_method_33_code 11 = .ok (.iadd, 1) := by decide +kernel
theorem d_M_addGiven_12 : decode prog_10_method_33_code 12 = .ok (.istore 6, 2) := by decide +kernel
theorem d_M_addGiven_14 : decode prog_10_method_33_code 14 = .ok (.iconst 0, 1) := by decide +kernel
theorem d_M_addGiven_15 : decode prog_10_method_33_code 15 = .ok (.istore 7, 2) := by decide +kernel
theorem d_M_addGiven_17 : decode prog_10_method_33_code 17 = .ok (.iload 7, 2) := by decide +kernel
theorem d_M_addGiven_19 : decode prog_10_method_33_code 19 = .ok (.bipush 19, 2) := by decide +kernel
theorem d_M_addGiven_21 : decode prog_10_method_33_code 21 = .ok (.if_icmp .ge 20, 3) := by decide +kernel
theorem d_M_addGiven_24 : decode prog_10_method_33_code 24 = .ok (.aload_n 0, 1) := by decide +kernel
theorem d_M_addGiven_25 : decode prog_10_method_33_code 25 = .ok (.getfield 7, 3) := by decide +kernel
theorem d_M_addGiven_28 : decode prog_10_method_33_code 28 = .ok (.iload 6, 2) := by decide +kernel
theorem d_M_addGiven_30 : decode prog_10_method_33_code 30 = .ok (.iload 7, 2) := by decide +kernel
theorem d_M_addGiven_32 : decode prog_10_method_33_code 32 = .ok (.iadd, 1) := by decide +kernel
theorem d_M_addGiven_33 : decode prog_10_method_33_code 33 = .ok (.iconst 0, 1) := by decide +kernel
theorem d_M_addGiven_34 : decode prog_10_method_33_code 34 = .ok (.iastore, 1) := by decide +kernel
theorem d_M_addGiven_35 : decode prog_10_method_33_code 35 = .ok (.iinc 7 1, 3) := by decide +kernel
theorem d_M_addGiven_38 : decode prog_10_method_33_code 38 = .ok (.goto (-21), 3) := by decide +kernel
theorem d_M_addGiven_41 : decode prog_10_method_33_code 41 = .ok (.aload_n 0, 1) := by decide +kernel
theorem d_M_addGiven_42 : decode prog_10_method_33_code 42 = .ok (.getfield 7, 3) := by decide +kernel
theorem d_M_addGiven_45 : decode prog_10_method_33_code 45 = .ok (.iload 6, 2) := by decide +kernel
theorem d_M_addGiven_47 : decode prog_10_method_33_code 47 = .ok (.iconst 0, 1) := by decide +kernel
theorem d_M_addGiven_48 : decode prog_10_method_33_code 48 = .ok (.iadd, 1) := by decide +kernel
theorem d_M_addGiven_49 : decode prog_10_method_33_code 49 = .ok (.iload_n 1, 1) := by decide +kernel
theorem d_M_addGiven_50 : decode prog_10_method_33_code 50 = .ok (.iastore, 1) := by decide +kernel
theorem d_M_addGiven_51 : decode prog_10_method_33_code 51 = .ok (.aload_n 0, 1) := by decide +kernel
theorem d_M_addGiven_52 : decode prog_10_method_33_code 52 = .ok (.getfield 7, 3) := by decide +kernel
theorem d_M_addGiven_55 : decode prog_10_method_33_code 55 = .ok (.iload 6, 2) := by decide +kernel
theorem d_M_addGiven_57 : decode prog_10_method_33_code 57 = .ok (.iconst 1, 1) := by decide +kernel
theorem d_M_addGiven_58 : decode prog_10_method_33_code 58 = .ok (.iadd, 1) := by decide +kernel
theorem d_M_addGiven_59 : decode prog_10_method_33_code 59 = .ok (.iload_n 2, 1) := by decide +kernel
theorem d_M_addGiven_60 : decode prog_10_method_33_code 60 = .ok (.iastore, 1) := by decide +kernel
theorem d_M_addGiven_61 : decode prog_10_method_33_code 61 = .ok (.aload_n 0, 1) := by decide +kernel
theorem d_M_addGiven_62 : decode prog_10_method_33_code 62 = .ok (.getfield 7, 3) := by decide +kernel
theorem d_M_addGiven_65 : decode prog_10_method_33_code 65 = .ok (.iload 6, 2) := by decide +kernel
theorem d_M_addGiven_67 : decode prog_10_method_33_code 67 = .ok (.iconst 1, 1) := by decide +kernel
theorem d_M_addGiven_68 : decode prog_10_method_33_code 68 = .ok (.iadd, 1) := by decide +kernel
theorem d_M_addGiven_69 : decode prog_10_method_33_code 69 = .ok (.iconst 1, 1) := by decide +kernel
theorem d_M_addGiven_70 : decode prog_10_method_33_code 70 = .ok (.iadd, 1) := by decide +kernel
theorem d_M_addGiven_71 : decode prog_10_method_33_code 71 = .ok (.iload_n 3, 1) := by decide +kernel
theorem d_M_addGiven_72 : decode prog_10_method_33_code 72 = .ok (.iastore, 1) := by decide +kernel
theorem d_M_addGiven_73 : decode prog_10_method_33_code 73 = .ok (.aload_n 0, 1) := by decide +kernel
theorem d_M_addGiven_74 : decode prog_10_method_33_code 74 = .ok (.getfield 7, 3) := by decide +kernel
theorem d_M_addGiven_77 : decode prog_10_method_33_code 77 = .ok (.iload 6, 2) := by decide +kernel
theorem d_M_addGiven_79 : decode prog_10_method_33_code 79 = .ok (.iconst 1, 1) := by decide +kernel
theorem d_M_addGiven_80 : decode prog_10_method_33_code 80 = .ok (.iadd, 1) := by decide +kernel
theorem d_M_addGiven_81 : decode prog_10_method_33_code 81 = .ok (.iconst 2, 1) := by decide +kernel
theorem d_M_addGiven_82 : decode prog_10_method_33_code 82 = .ok (.iadd, 1) := by decide +kernel
theorem d_M_addGiven_83 : decode prog_10_method_33_code 83 = .ok (.iload 4, 2) := by decide +kernel
theorem d_M_addGiven_85 : decode prog_10_method_33_code 85 = .ok (.iastore, 1) := by decide +kernel
theorem d_M_addGiven_86 : decode prog_10_method_33_code 86 = .ok (.aload_n 0, 1) := by decide +kernel
theorem d_M_addGiven_87 : decode prog_10_method_33_code 87 = .ok (.getfield 7, 3) := by decide +kernel
theorem d_M_addGiven_90 : decode prog_10_method_33_code 90 = .ok (.iload 6, 2) := by decide +kernel
theorem d_M_addGiven_92 : decode prog_10_method_33_code 92 = .ok (.iconst 1, 1) := by decide +kernel
theorem d_M_addGiven_93 : decode prog_10_method_33_code 93 = .ok (.iadd, 1) := by decide +kernel
theorem d_M_addGiven_94 : decode prog_10_method_33_code 94 = .ok (.iconst 3, 1) := by decide +kernel
theorem d_M_addGiven_95 : decode prog_10_method_33_code 95 = .ok (.iadd, 1) := by decide +kernel
theorem d_M_addGiven_96 : decode prog_10_method_33_code 96 = .ok (.iload 5, 2) := by decide +kernel
theorem d_M_addGiven_98 : decode prog_10_method_33_code 98 = .ok (.iastore, 1) := by decide +kernel
theorem d_M_addGiven_99 : decode prog_10_method_33_code 99 = .ok (.aload_n 0, 1) := by decide +kernel
theorem d_M_addGiven_100 : decode prog_10_method_33_code 100 = .ok (.getfield 7, 3) := by decide +kernel
theorem d_M_addGiven_103 : decode prog_10_method_33_code 103 = .ok (.iconst 1, 1) := by decide +kernel
theorem d_M_addGiven_104 : decode prog_10_method_33_code 104 = .ok (.dup2, 1) := by decide +kernel
theorem d_M_addGiven_105 : decode prog_10_method_33_code 105 = .ok (.iaload, 1) := by decide +kernel
theorem d_M_addGiven_106 : decode prog_10_method_33_code 106 = .ok (.iconst 1, 1) := by decide +kernel
theorem d_M_addGiven_107 : decode prog_10_method_33_code 107 = .ok (.iadd, 1) := by decide +kernel
theorem d_M_addGiven_108 : decode prog_10_method_33_code 108 = .ok (.iastore, 1) := by decide +kernel
theorem d_M_addGiven_109 : decode prog_10_method_33_code 109 = .ok (.aload_n 0, 1) := by decide +kernel
theorem d_M_addGiven_110 : decode prog_10_method_33_code 110 = .ok (.getfield 7, 3) := by decide +kernel
theorem d_M_addGiven_113 : decode prog_10_method_33_code 113 = .ok (.iconst 1, 1) := by decide +kernel
theorem d_M_addGiven_114 : decode prog_10_method_33_code 114 = .ok (.iaload, 1) := by decide +kernel
theorem d_M_addGiven_115 : decode prog_10_method_33_code 115 = .ok (.iconst 1, 1) := by decide +kernel
theorem d_M_addGiven_116 : decode prog_10_method_33_code 116 = .ok (.isub, 1) := by decide +kernel
theorem d_M_addGiven_117 : decode prog_10_method_33_code 117 = .ok (.ireturn, 1) := by decide +kernel
def L_M_addGiven_17 (r0 : Nat) (y1 : Int32) (y2 : Int32) (y3 : Int32) (y4 : Int32) (y5 : Int32) (y6 : Int32) (k : Mem → Option (Int32 × Mem)) : Nat → Int32 → Mem → Option (Int32 × Mem)
  | 0, _, _ => none
  | n + 1, x7, σ =>
    if (19 : Int32) ≤ x7 then
      k σ
    else
      if ib (y6 + x7) 481 then
        lt (wr σ (r0 + 1) (y6 + x7).toNatClampNeg (0 : Int32)) fun σ2 =>
        L_M_addGiven_17 r0 y1 y2 y3 y4 y5 y6 k n (x7 + 1) σ2
      else none
def f_M_addGiven (q : Nat) (p1 : Int32) (p2 : Int32) (p3 : Int32) (p4 : Int32) (p5 : Int32) (σ : Mem) : Option (Int32 × Mem) :=
  lt ((11 : Int32) + ((19 : Int32) * (σ (q + 1) 1))) fun v1 =>
  L_M_addGiven_17 q p1 p2 p3 p4 p5 v1 (fun σ3 =>
    if ib (v1 + (0 : Int32)) 481 then
      lt (wr σ3 (q + 1) (v1 + (0 : Int32)).toNatClampNeg p1) fun σ4 =>
      if ib (v1 + (1 : Int32)) 481 then
        lt (wr σ4 (q + 1) (v1 + (1 : Int32)).toNatClampNeg p2) fun σ5 =>
        if ib ((v1 + (1 : Int32)) + (1 : Int32)) 481 then
          lt (wr σ5 (q + 1) ((v1 + (1 : Int32)) + (1 : Int32)).toNatClampNeg p3) fun σ6 =>
          if ib ((v1 + (1 : Int32)) + (2 : Int32)) 481 then
            lt (wr σ6 (q + 1) ((v1 + (1 : Int32)) + (2 : Int32)).toNatClampNeg p4) fun σ7 =>
            if ib ((v1 + (1 : Int32)) + (3 : Int32)) 481 then
              lt (wr σ7 (q + 1) ((v1 + (1 : Int32)) + (3 : Int32)).toNatClampNeg p5) fun σ8 =>
              lt (wr σ8 (q + 1) 1 ((σ8 (q + 1) 1) + (1 : Int32))) fun σ9 =>
              some ((σ9 (q + 1) 1) - (1 : Int32), σ9)
            else none
          else none
        else none
      else none
    else none) FU (0 : Int32) σ
set_option maxRecDepth 100000 in
set_option maxHeartbeats 4000000 in
theorem l_L_M_addGiven_17 {X : CX} {p : Program} {l : Launch} {e : Env} {s : State} {m : MethodId} {args : Array Value} {below : List Frame} {meth : Method} {c : Code} (F : FR p s m args c prog_10_method_33_code 8 "SensorHubModel" X) (hlk : meth.locks = false) (hr : meth.sig.returnType = some .int) (r0 : Nat) (y1 : Int32) (y2 : Int32) (y3 : Int32) (y4 : Int32) (y5 : Int32) (y6 : Int32) (hr0 : ModelOK X r0) (k : Mem → Option (Int32 × Mem)) (hk : ∀  (σ : Mem), G X p l e (rmD 0) s m args below meth c 8 0 0 (QI X below args s vI) 41 [(0, .ref (xa X r0)), (1, .int y1), (2, .int y2), (3, .int y3), (4, .int y4), (5, .int y5), (6, .int y6)] [] σ (k σ)) : ∀ (n : Nat) (x7 : Int32) (σ : Mem), G X p l e (rmD 0) s m args below meth c 8 0 0 (QI X below args s vI) 17 [(0, .ref (xa X r0)), (1, .int y1), (2, .int y2), (3, .int y3), (4, .int y4), (5, .int y5), (6, .int y6), (7, .int x7)] [] σ (L_M_addGiven_17 r0 y1 y2 y3 y4 y5 y6 k n x7 σ) := by
  intro n
  induction n with
  | zero => intros; exact g_no
  | succ n ih =>
    intro x7 σ
    unfold L_M_addGiven_17
    refine g_iload F d_M_addGiven_17 7 rfl ?_
    refine g_bipush F (v := 19) d_M_addGiven_19 (by decide) ?_
    refine g_icmp_ge F (tgt := 41) d_M_addGiven_21 (by decide) (fun h1 => ?_) (fun h2 => ?_)
    · exact g_sub [0, 1, 2, 3, 4, 5, 6] rfl (hk  _)
    refine g_aload_n F d_M_addGiven_24 0 rfl ?_
    refine g_getR F fs_8_7 hr0.1 rfl d_M_addGiven_25 ?_
    refine g_iload F d_M_addGiven_28 6 rfl ?_
    refine g_iload F d_M_addGiven_30 7 rfl ?_
    refine g_iadd F d_M_addGiven_32 ?_
    refine g_iconst F (v := 0) d_M_addGiven_33 (by decide) ?_
    refine g_iast F (n := 481) hr0.2.1 d_M_addGiven_34 ?_
    refine g_ltM (fun σ2 _ => ?_)
    refine g_iinc F (v := 1) (ls' := [(7, .int (x7 + 1)), (0, .ref (xa X r0)), (1, .int y1), (2, .int y2), (3, .int y3), (4, .int y4), (5, .int y5), (6, .int y6)]) d_M_addGiven_35 7 rfl (by decide) (by decide) rfl ?_
    refine g_goto F (tgt := 17) d_M_addGiven_38 (by decide) ?_
    exact g_sub [1, 2, 3, 4, 5, 6, 7, 0] rfl (ih _ _)
set_option maxRecDepth 100000 in
set_option maxHeartbeats 4000000 in
theorem c_M_addGiven {X : CX} (l : Launch) (q : Nat) (p1 : Int32) (p2 : Int32) (p3 : Int32) (p4 : Int32) (p5 : Int32) (hq : ModelOK X q) (σ : Mem) : CT X l y_M_addGiven prog_10_method_33_code 8 (some .int) 0 vI [.ref (xa X q), .int p1, .int p2, .int p3, .int p4, .int p5] σ (f_M_addGiven q p1 p2 p3 p4 p5 σ) := by
  refine CT_of (by decide +kernel) (Nat.le_of_ble_eq_true rfl) ?_
  intro p e s m args below meth c F hlk hr
  have F : FR p s m args c prog_10_method_33_code 8 "SensorHubModel" X := F
  show G X p l e (rmD 0) s m args below meth c 8 0 0 (QI X below args s vI) 0 [(0, .ref (xa X q)), (1, .int p1), (2, .int p2), (3, .int p3), (4, .int p4), (5, .int p5)] [] σ _
  unfold f_M_addGiven
  refine g_bipush F (v := 11) d_M_addGiven_0 (by decide) ?_
  refine g_bipush F (v := 19) d_M_addGiven_2 (by decide) ?_
  refine g_aload_n F d_M_addGiven_4 0 rfl ?_
  refine g_getR F fs_8_7 hq.1 rfl d_M_addGiven_5 ?_
  refine g_iconst F (v := 1) d_M_addGiven_8 (by decide) ?_
  refine g_ialdC F (n := 481) 1 (by decide) (by decide) hq.2.1 d_M_addGiven_9 ?_
  refine g_imul F d_M_addGiven_10 ?_
  refine g_iadd F d_M_addGiven_11 ?_
  refine g_ltI (fun v1 _ => ?_)
  refine g_istore F (ls' := [(6, .int v1), (0, .ref (xa X q)), (1, .int p1), (2, .int p2), (3, .int p3), (4, .int p4), (5, .int p5)]) d_M_addGiven_12 (by decide) rfl ?_
  refine g_iconst F (v := 0) d_M_addGiven_14 (by decide) ?_
  refine g_istore F (ls' := [(7, .int (0 : Int32)), (6, .int v1), (0, .ref (xa X q)), (1, .int p1), (2, .int p2), (3, .int p3), (4, .int p4), (5, .int p5)]) d_M_addGiven_15 (by decide) rfl ?_
  refine g_sub [2, 3, 4, 5, 6, 7, 1, 0] rfl (l_L_M_addGiven_17 F hlk hr _ _ _ _ _ _ _ hq _ (fun σ3 => ?_) FU _ _)
  refine g_aload_n F d_M_addGiven_41 0 rfl ?_
  refine g_getR F fs_8_7 hq.1 rfl d_M_addGiven_42 ?_
  refine g_iload F d_M_addGiven_45 6 rfl ?_
  refine g_iconst F (v := 0) d_M_addGiven_47 (by decide) ?_
  refine g_iadd F d_M_addGiven_48 ?_
  refine g_iload_n F d_M_addGiven_49 1 rfl ?_
  refine g_iast F (n := 481) hq.2.1 d_M_addGiven_50 ?_
  refine g_ltM (fun σ4 _ => ?_)
  refine g_aload_n F d_M_addGiven_51 0 rfl ?_
  refine g_getR F fs_8_7 hq.1 rfl d_M_addGiven_52 ?_
  refine g_iload F d_M_addGiven_55 6 rfl ?_
  refine g_iconst F (v := 1) d_M_addGiven_57 (by decide) ?_
  refine g_iadd F d_M_addGiven_58 ?_
  refine g_iload_n F d_M_addGiven_59 2 rfl ?_
  refine g_iast F (n := 481) hq.2.1 d_M_addGiven_60 ?_
  refine g_ltM (fun σ5 _ => ?_)
  refine g_aload_n F d_M_addGiven_61 0 rfl ?_
  refine g_getR F fs_8_7 hq.1 rfl d_M_addGiven_62 ?_
  refine g_iload F d_M_addGiven_65 6 rfl ?_
  refine g_iconst F (v := 1) d_M_addGiven_67 (by decide) ?_
  refine g_iadd F d_M_addGiven_68 ?_
  refine g_iconst F (v := 1) d_M_addGiven_69 (by decide) ?_
  refine g_iadd F d_M_addGiven_70 ?_
  refine g_iload_n F d_M_addGiven_71 3 rfl ?_
  refine g_iast F (n := 481) hq.2.1 d_M_addGiven_72 ?_
  refine g_ltM (fun σ6 _ => ?_)
  refine g_aload_n F d_M_addGiven_73 0 rfl ?_
  refine g_getR F fs_8_7 hq.1 rfl d_M_addGiven_74 ?_
  refine g_iload F d_M_addGiven_77 6 rfl ?_
  refine g_iconst F (v := 1) d_M_addGiven_79 (by decide) ?_
  refine g_iadd F d_M_addGiven_80 ?_
  refine g_iconst F (v := 2) d_M_addGiven_81 (by decide) ?_
  refine g_iadd F d_M_addGiven_82 ?_
  refine g_iload F d_M_addGiven_83 4 rfl ?_
  refine g_iast F (n := 481) hq.2.1 d_M_addGiven_85 ?_
  refine g_ltM (fun σ7 _ => ?_)
  refine g_aload_n F d_M_addGiven_86 0 rfl ?_
  refine g_getR F fs_8_7 hq.1 rfl d_M_addGiven_87 ?_
  refine g_iload F d_M_addGiven_90 6 rfl ?_
  refine g_iconst F (v := 1) d_M_addGiven_92 (by decide) ?_
  refine g_iadd F d_M_addGiven_93 ?_
  refine g_iconst F (v := 3) d_M_addGiven_94 (by decide) ?_
  refine g_iadd F d_M_addGiven_95 ?_
  refine g_iload F d_M_addGiven_96 5 rfl ?_
  refine g_iast F (n := 481) hq.2.1 d_M_addGiven_98 ?_
  refine g_ltM (fun σ8 _ => ?_)
  refine g_aload_n F d_M_addGiven_99 0 rfl ?_
  refine g_getR F fs_8_7 hq.1 rfl d_M_addGiven_100 ?_
  refine g_iconst F (v := 1) d_M_addGiven_103 (by decide) ?_
  refine g_dup2 F d_M_addGiven_104 rfl rfl ?_
  refine g_ialdC F (n := 481) 1 (by decide) (by decide) hq.2.1 d_M_addGiven_105 ?_
  refine g_iconst F (v := 1) d_M_addGiven_106 (by decide) ?_
  refine g_iadd F d_M_addGiven_107 ?_
  refine g_iastC F (n := 481) 1 (by decide) (by decide) hq.2.1 d_M_addGiven_108 ?_
  refine g_ltM (fun σ9 _ => ?_)
  refine g_aload_n F d_M_addGiven_109 0 rfl ?_
  refine g_getR F fs_8_7 hq.1 rfl d_M_addGiven_110 ?_
  refine g_iconst F (v := 1) d_M_addGiven_113 (by decide) ?_
  refine g_ialdC F (n := 481) 1 (by decide) (by decide) hq.2.1 d_M_addGiven_114 ?_
  refine g_iconst F (v := 1) d_M_addGiven_115 (by decide) ?_
  refine g_isub F d_M_addGiven_116 ?_
  exact g_iret F hlk hr d_M_addGiven_117
def y_M_addPhysical : MethodName := ⟨"SensorHubModel", "addPhysical", "(IIIIII)I"⟩
theorem d_M_addPhysical_0 : decode prog_10_method_34_code 0 = .ok (.aload_n 0, 1) := by decide +kernel
theorem d_M_addPhysical_1 : decode prog_10_method_34_code 1 = .ok (.iconst 4, 1) := by decide +kernel
theorem d_M_addPhysical_2 : decode prog_10_method_34_code 2 = .ok (.iload_n 1, 1) := by decide +kernel
theorem d_M_addPhysical_3 : decode prog_10_method_34_code 3 = .ok (.iload_n 2, 1) := by decide +kernel
theorem d_M_addPhysical_4 : decode prog_10_method_34_code 4 = .ok (.iload_n 3, 1) := by decide +kernel
theorem d_M_addPhysical_5 : decode prog_10_method_34_code 5 = .ok (.iload 4, 2) := by decide +kernel
theorem d_M_addPhysical_7 : decode prog_10_method_34_code 7 = .ok (.invokevirtual 113, 3) := by decide +kernel
theorem d_M_addPhysical_10 : decode prog_10_method_34_code 10 = .ok (.istore 7, 2) := by decide +kernel
theorem d_M_addPhysical_12 : decode prog_10_method_34_code 12 = .ok (.aload_n 0, 1) := by decide +kernel
theorem d_M_addPhysical_13 : decode prog_10_method_34_code 13 = .ok (.getfield 7, 3) := by decide +kernel
theorem d_M_addPhysical_16 : decode prog_10_method_34_code 16 = .ok (.bipush 11, 2) := by decide +kernel
theorem d_M_addPhysical_18 : decode prog_10_method_34_code 18 = .ok (.bipush 19, 2) := by decide +kernel
theorem d_M_addPhysical_20 : decode prog_10_method_34_code 20 = .ok (.iload 7, 2) := by decide +kernel
theorem d_M_addPhysical_22 : decode prog_10_method_34_code 22 = .ok (.imul, 1) := by decide +kernel
theorem d_M_addPhysical_23 : decode prog_10_method_34_code 23 = .ok (.iadd, 1) := by decide +kernel
theorem d_M_addPhysical_24 : decode prog_10_method_34_code 24 = .ok (.iconst 1, 1) := by decide +kernel
theorem d_M_addPhysical_25 : decode prog_10_method_34_code 25 = .ok (.iadd, 1) := by decide +kernel
theorem d_M_addPhysical_26 : decode prog_10_method_34_code 26 = .ok (.iconst 4, 1) := by decide +kernel
theorem d_M_addPhysical_27 : decode prog_10_method_34_code 27 = .ok (.iadd, 1) := by decide +kernel
theorem d_M_addPhysical_28 : decode prog_10_method_34_code 28 = .ok (.iload 5, 2) := by decide +kernel
theorem d_M_addPhysical_30 : decode prog_10_method_34_code 30 = .ok (.iastore, 1) := by decide +kernel
theorem d_M_addPhysical_31 : decode prog_10_method_34_code 31 = .ok (.aload_n 0, 1) := by decide +kernel
theorem d_M_addPhysical_32 : decode prog_10_method_34_code 32 = .ok (.getfield 7, 3) := by decide +kernel
theorem d_M_addPhysical_35 : decode prog_10_method_34_code 35 = .ok (.bipush 11, 2) := by decide +kernel
theorem d_M_addPhysical_37 : decode prog_10_method_34_code 37 = .ok (.bipush 19, 2) := by decide +kernel
theorem d_M_addPhysical_39 : decode prog_10_method_34_code 39 = .ok (.iload 7, 2) := by decide +kernel
theorem d_M_addPhysical_41 : decode prog_10_method_34_code 41 = .ok (.imul, 1) := by decide +kernel
theorem d_M_addPhysical_42 : decode prog_10_method_34_code 42 = .ok (.iadd, 1) := by decide +kernel
theorem d_M_addPhysical_43 : decode prog_10_method_34_code 43 = .ok (.iconst 1, 1) := by decide +kernel
theorem d_M_addPhysical_44 : decode prog_10_method_34_code 44 = .ok (.iadd, 1) := by decide +kernel
theorem d_M_addPhysical_45 : decode prog_10_method_34_code 45 = .ok (.iconst 5, 1) := by decide +kernel
theorem d_M_addPhysical_46 : decode prog_10_method_34_code 46 = .ok (.iadd, 1) := by decide +kernel
theorem d_M_addPhysical_47 : decode prog_10_method_34_code 47 = .ok (.iload 6, 2) := by decide +kernel
theorem d_M_addPhysical_49 : decode prog_10_method_34_code 49 = .ok (.iastore, 1) := by decide +kernel
theorem d_M_addPhysical_50 : decode prog_10_method_34_code 50 = .ok (.iload 7, 2) := by decide +kernel
theorem d_M_addPhysical_52 : decode prog_10_method_34_code 52 = .ok (.ireturn, 1) := by decide +kernel
theorem cv_8_113 : CSV "SensorHubModel" 113 y_M_addGiven prog_10_method_33_code 8 (some .int) 5 := ⟨gw_I 957 (by decide +kernel) rfl, gw_I 959 (by decide +kernel) rfl, gw_I 28 (by decide +kernel) rfl, gw_I 78 (by decide +kernel) rfl, gw_I 960 (by decide +kernel) rfl, ⟨by decide +kernel, by decide +kernel⟩, by decide +kernel⟩
def f_M_addPhysical (q : Nat) (p1 : Int32) (p2 : Int32) (p3 : Int32) (p4 : Int32) (p5 : Int32) (p6 : Int32) (σ : Mem) : Option (Int32 × Mem) :=
  bd (f_M_addGiven q (4 : Int32) p1 p2 p3 p4 σ) fun r1 σ2 =>
  if ib ((((11 : Int32) + ((19 : Int32) * r1)) + (1 : Int32)) + (4 : Int32)) 481 then
    lt (wr σ2 (q + 1) ((((11 : Int32) + ((19 : Int32) * r1)) + (1 : Int32)) + (4 : Int32)).toNatClampNeg p5) fun σ3 =>
    if ib ((((11 : Int32) + ((19 : Int32) * r1)) + (1 : Int32)) + (5 : Int32)) 481 then
      lt (wr σ3 (q + 1) ((((11 : Int32) + ((19 : Int32) * r1)) + (1 : Int32)) + (5 : Int32)).toNatClampNeg p6) fun σ4 =>
      some (r1, σ4)
    else none
  else none
set_option maxRecDepth 100000 in
set_option maxHeartbeats 4000000 in
theorem c_M_addPhysical {X : CX} (l : Launch) (q : Nat) (p1 : Int32) (p2 : Int32) (p3 : Int32) (p4 : Int32) (p5 : Int32) (p6 : Int32) (hq : ModelOK X q) (σ : Mem) : CT X l y_M_addPhysical prog_10_method_34_code 8 (some .int) 1 vI [.ref (xa X q), .int p1, .int p2, .int p3, .int p4, .int p5, .int p6] σ (f_M_addPhysical q p1 p2 p3 p4 p5 p6 σ) := by
  refine CT_of (by decide +kernel) (Nat.le_of_ble_eq_true rfl) ?_
  intro p e s m args below meth c F hlk hr
  have F : FR p s m args c prog_10_method_34_code 8 "SensorHubModel" X := F
  show G X p l e (rmD 1) s m args below meth c 8 0 0 (QI X below args s vI) 0 [(0, .ref (xa X q)), (1, .int p1), (2, .int p2), (3, .int p3), (4, .int p4), (5, .int p5), (6, .int p6)] [] σ _
  unfold f_M_addPhysical
  refine g_aload_n F d_M_addPhysical_0 0 rfl ?_
  refine g_iconst F (v := 4) d_M_addPhysical_1 (by decide) ?_
  refine g_iload_n F d_M_addPhysical_2 1 rfl ?_
  refine g_iload_n F d_M_addPhysical_3 2 rfl ?_
  refine g_iload_n F d_M_addPhysical_4 3 rfl ?_
  refine g_iload F d_M_addPhysical_5 4 rfl ?_
  refine g_callV F (dp := 0) (ci := 8) (As := [.int (4 : Int32), .int p1, .int p2, .int p3, .int p4]) (c_M_addGiven l _ _ _ _ _ _ hq _) cv_8_113 hq.1 rfl rfl rfl (Nat.le_of_ble_eq_true rfl) ⟨Nat.le_of_ble_eq_true rfl, Nat.le_of_ble_eq_true rfl⟩ ⟨Nat.zero_le _, Nat.zero_le _⟩ d_M_addPhysical_7 (fun r1 σ2 h1 => ?_)
  refine g_istore F (ls' := [(7, .int r1), (0, .ref (xa X q)), (1, .int p1), (2, .int p2), (3, .int p3), (4, .int p4), (5, .int p5), (6, .int p6)]) d_M_addPhysical_10 (by decide) rfl ?_
  refine g_aload_n F d_M_addPhysical_12 1 rfl ?_
  refine g_getR F fs_8_7 hq.1 rfl d_M_addPhysical_13 ?_
  refine g_bipush F (v := 11) d_M_addPhysical_16 (by decide) ?_
  refine g_bipush F (v := 19) d_M_addPhysical_18 (by decide) ?_
  refine g_iload F d_M_addPhysical_20 0 rfl ?_
  refine g_imul F d_M_addPhysical_22 ?_
  refine g_iadd F d_M_addPhysical_23 ?_
  refine g_iconst F (v := 1) d_M_addPhysical_24 (by decide) ?_
  refine g_iadd F d_M_addPhysical_25 ?_
  refine g_iconst F (v := 4) d_M_addPhysical_26 (by decide) ?_
  refine g_iadd F d_M_addPhysical_27 ?_
  refine g_iload F d_M_addPhysical_28 6 rfl ?_
  refine g_iast F (n := 481) hq.2.1 d_M_addPhysical_30 ?_
  refine g_ltM (fun σ3 _ => ?_)
  refine g_aload_n F d_M_addPhysical_31 1 rfl ?_
  refine g_getR F fs_8_7 hq.1 rfl d_M_addPhysical_32 ?_
  refine g_bipush F (v := 11) d_M_addPhysical_35 (by decide) ?_
  refine g_bipush F (v := 19) d_M_addPhysical_37 (by decide) ?_
  refine g_iload F d_M_addPhysical_39 0 rfl ?_
  refine g_imul F d_M_addPhysical_41 ?_
  refine g_iadd F d_M_addPhysical_42 ?_
  refine g_iconst F (v := 1) d_M_addPhysical_43 (by decide) ?_
  refine g_iadd F d_M_addPhysical_44 ?_
  refine g_iconst F (v := 5) d_M_addPhysical_45 (by decide) ?_
  refine g_iadd F d_M_addPhysical_46 ?_
  refine g_iload F d_M_addPhysical_47 7 rfl ?_
  refine g_iast F (n := 481) hq.2.1 d_M_addPhysical_49 ?_
  refine g_ltM (fun σ4 _ => ?_)
  refine g_iload F d_M_addPhysical_50 0 rfl ?_
  exact g_iret F hlk hr d_M_addPhysical_52
def y_M_addSensor : MethodName := ⟨"SensorHubModel", "addSensor", "(IIIIII)I"⟩
theorem d_M_addSensor_0 : decode prog_10_method_35_code 0 = .ok (.aload_n 0, 1) := by decide +kernel
theorem d_M_addSensor_1 : decode prog_10_method_35_code 1 = .ok (.iconst 0, 1) := by decide +kernel
theorem d_M_addSensor_2 : decode prog_10_method_35_code 2 = .ok (.putfield 35, 3) := by decide +kernel
theorem d_M_addSensor_5 : decode prog_10_method_35_code 5 = .ok (.iload_n 1, 1) := by decide +kernel
theorem d_M_addSensor_6 : decode prog_10_method_35_code 6 = .ok (.iconst 1, 1) := by decide +kernel
theorem d_M_addSensor_7 : decode prog_10_method_35_code 7 = .ok (.bipush 20, 2) := by decide +kernel
theorem d_M_addSensor_9 : decode prog_10_method_35_code 9 = .ok (.invokestatic 42, 3) := by decide +kernel
theorem d_M_addSensor_12 : decode prog_10_method_35_code 12 = .ok (.ifCond .eq 62, 3) := by decide +kernel
theorem d_M_addSensor_15 : decode prog_10_method_35_code 15 = .ok (.iload_n 2, 1) := by decide +kernel
theorem d_M_addSensor_16 : decode prog_10_method_35_code 16 = .ok (.iconst 1, 1) := by decide +kernel
theorem d_M_addSensor_17 : decode prog_10_method_35_code 17 = .ok (.iconst 5, 1) := by decide +kernel
theorem d_M_addSensor_18 : decode prog_10_method_35_code 18 = .ok (.invokestatic 42, 3) := by decide +kernel
theorem d_M_addSensor_21 : decode prog_10_method_35_code 21 = .ok (.ifCond .eq 53, 3) := by decide +kernel
theorem d_M_addSensor_24 : decode prog_10_method_35_code 24 = .ok (.iload_n 3, 1) := by decide +kernel
theorem d_M_addSensor_25 : decode prog_10_method_35_code 25 = .ok (.iconst 0, 1) := by decide +kernel
theorem d_M_addSensor_26 : decode prog_10_method_35_code 26 = .ok (.bipush 99, 2) := by decide +kernel
theorem d_M_addSensor_28 : decode prog_10_method_35_code 28 = .ok (.invokestatic 42, 3) := by decide +kernel
theorem d_M_addSensor_31 : decode prog_10_method_35_code 31 = .ok (.ifCond .eq 43, 3) := by decide +kernel
theorem d_M_addSensor_34 : decode prog_10_method_35_code 34 = .ok (.iload 4, 2) := by decide +kernel
theorem d_M_addSensor_36 : decode prog_10_method_35_code 36 = .ok (.iconst 0, 1) := by decide +kernel
theorem d_M_addSensor_37 : decode prog_10_method_35_code 37 = .ok (.sipush 999, 3) := by decide +kernel
theorem d_M_addSensor_40 : decode prog_10_method_35_code 40 = .ok (.invokestatic 42, 3) := by decide +kernel
theorem d_M_addSensor_43 : decode prog_10_method_35_code 43 = .ok (.ifCond .eq 31, 3) := by decide +kernel
theorem d_M_addSensor_46 : decode prog_10_method_35_code 46 = .ok (.iload 5, 2) := by decide +kernel
theorem d_M_addSensor_48 : decode prog_10_method_35_code 48 = .ok (.iconst 0, 1) := by decide +kernel
theorem d_M_addSensor_49 : decode prog_10_method_35_code 49 = .ok (.bipush 9, 2) := by decide +kernel
theorem d_M_addSensor_51 : decode prog_10_method_35_code 51 = .ok (.invokestatic 42, 3) := by decide +kernel
theorem d_M_addSensor_54 : decode prog_10_method_35_code 54 = .ok (.ifCond .eq 20, 3) := by decide +kernel
theorem d_M_addSensor_57 : decode prog_10_method_35_code 57 = .ok (.iload 5, 2) := by decide +kernel
theorem d_M_addSensor_59 : decode prog_10_method_35_code 59 = .ok (.iload_n 1, 1) := by decide +kernel
theorem d_M_addSensor_60 : decode prog_10_method_35_code 60 = .ok (.if_icmp .ge 14, 3) := by decide +kernel
theorem d_M_addSensor_63 : decode prog_10_method_35_code 63 = .ok (.iload 6, 2) := by decide +kernel
theorem d_M_addSensor_65 : decode prog_10_method_35_code 65 = .ok (.iconst 1, 1) := by decide +kernel
theorem d_M_addSensor_66 : decode prog_10_method_35_code 66 = .ok (.bipush 50, 2) := by decide +kernel
theorem d_M_addSensor_68 : decode prog_10_method_35_code 68 = .ok (.invokestatic 42, 3) := by decide +kernel
theorem d_M_addSensor_71 : decode prog_10_method_35_code 71 = .ok (.ifCond .ne 5, 3) := by decide +kernel
theorem d_M_addSensor_74 : decode prog_10_method_35_code 74 = .ok (.iconst (-1), 1) := by decide +kernel
theorem d_M_addSensor_75 : decode prog_10_method_35_code 75 = .ok (.ireturn, 1) := by decide +kernel
theorem d_M_addSensor_76 : decode prog_10_method_35_code 76 = .ok (.aload_n 0, 1) := by decide +kernel
theorem d_M_addSensor_77 : decode prog_10_method_35_code 77 = .ok (.getfield 7, 3) := by decide +kernel
theorem d_M_addSensor_80 : decode prog_10_method_35_code 80 = .ok (.iconst 1, 1) := by decide +kernel
theorem d_M_addSensor_81 : decode prog_10_method_35_code 81 = .ok (.iaload, 1) := by decide +kernel
theorem d_M_addSensor_82 : decode prog_10_method_35_code 82 = .ok (.bipush 8, 2) := by decide +kernel
theorem d_M_addSensor_84 : decode prog_10_method_35_code 84 = .ok (.if_icmp .ne 6, 3) := by decide +kernel
theorem d_M_addSensor_87 : decode prog_10_method_35_code 87 = .ok (.bipush (-3), 2) := by decide +kernel
theorem d_M_addSensor_89 : decode prog_10_method_35_code 89 = .ok (.ireturn, 1) := by decide +kernel
theorem d_M_addSensor_90 : decode prog_10_method_35_code 90 = .ok (.aload_n 0, 1) := by decide +kernel
theorem d_M_addSensor_91 : decode prog_10_method_35_code 91 = .ok (.invokevirtual 117, 3) := by decide +kernel
theorem d_M_addSensor_94 : decode prog_10_method_35_code 94 = .ok (.aload_n 0, 1) := by decide +kernel
theorem d_M_addSensor_95 : decode prog_10_method_35_code 95 = .ok (.iload_n 1, 1) := by decide +kernel
theorem d_M_addSensor_96 : decode prog_10_method_35_code 96 = .ok (.iload_n 2, 1) := by decide +kernel
theorem d_M_addSensor_97 : decode prog_10_method_35_code 97 = .ok (.iload_n 3, 1) := by decide +kernel
theorem d_M_addSensor_98 : decode prog_10_method_35_code 98 = .ok (.iload 4, 2) := by decide +kernel
theorem d_M_addSensor_100 : decode prog_10_method_35_code 100 = .ok (.iload 5, 2) := by decide +kernel
theorem d_M_addSensor_102 : decode prog_10_method_35_code 102 = .ok (.iload 6, 2) := by decide +kernel
theorem d_M_addSensor_104 : decode prog_10_method_35_code 104 = .ok (.invokevirtual 120, 3) := by decide +kernel
theorem d_M_addSensor_107 : decode prog_10_method_35_code 107 = .ok (.ireturn, 1) := by decide +kernel
theorem fw_8_35 : FW "SensorHubModel" 35 8 0 .int := ⟨"SensorHubModel", T_8, 16, rfl, by decide, rfl, gw_I 892 (by decide +kernel) rfl, rfl, by decide +kernel⟩
theorem cv_8_117 : CSV "SensorHubModel" 117 y_M_keep prog_10_method_10_code 2 none 0 := ⟨gw_I 949 (by decide +kernel) rfl, gw_I 951 (by decide +kernel) rfl, gw_I 26 (by decide +kernel) rfl, gw_I 78 (by decide +kernel) rfl, gw_I 952 (by decide +kernel) rfl, ⟨by decide +kernel, by decide +kernel⟩, by decide +kernel⟩
theorem cv_8_120 : CSV "SensorHubModel" 120 y_M_addPhysical prog_10_method_34_code 8 (some .int) 6 := ⟨gw_I 953 (by decide +kernel) rfl, gw_I 955 (by decide +kernel) rfl, gw_I 27 (by decide +kernel) rfl, gw_I 78 (by decide +kernel) rfl, gw_I 956 (by decide +kernel) rfl, ⟨by decide +kernel, by decide +kernel⟩, by decide +kernel⟩
def f_M_addSensor (q : Nat) (p1 : Int32) (p2 : Int32) (p3 : Int32) (p4 : Int32) (p5 : Int32) (p6 : Int32) (σ : Mem) : Option (Int32 × Mem) :=
  lt (wr σ q 0 (0 : Int32)) fun σ1 =>
  bd (f_M_in p1 (1 : Int32) (20 : Int32) σ1) fun r2 σ3 =>
  if r2 = 0 then
    some ((-1 : Int32), σ3)
  else
    bd (f_M_in p2 (1 : Int32) (5 : Int32) σ3) fun r4 σ5 =>
    if r4 = 0 then
      some ((-1 : Int32), σ5)
    else
      bd (f_M_in p3 (0 : Int32) (99 : Int32) σ5) fun r6 σ7 =>
      if r6 = 0 then
        some ((-1 : Int32), σ7)
      else
        bd (f_M_in p4 (0 : Int32) (999 : Int32) σ7) fun r8 σ9 =>
        if r8 = 0 then
          some ((-1 : Int32), σ9)
        else
          bd (f_M_in p5 (0 : Int32) (9 : Int32) σ9) fun r10 σ11 =>
          if r10 = 0 then
            some ((-1 : Int32), σ11)
          else
            if p1 ≤ p5 then
              some ((-1 : Int32), σ11)
            else
              bd (f_M_in p6 (1 : Int32) (50 : Int32) σ11) fun r12 σ13 =>
              if r12 = 0 then
                some ((-1 : Int32), σ13)
              else
                if (σ13 (q + 1) 1) = (8 : Int32) then
                  some ((-3 : Int32), σ13)
                else
                  bd (f_M_keep q σ13) fun _ σ15 =>
                  bd (f_M_addPhysical q p1 p2 p3 p4 p5 p6 σ15) fun r16 σ17 =>
                  some (r16, σ17)
set_option maxRecDepth 100000 in
set_option maxHeartbeats 4000000 in
theorem c_M_addSensor {X : CX} (l : Launch) (q : Nat) (p1 : Int32) (p2 : Int32) (p3 : Int32) (p4 : Int32) (p5 : Int32) (p6 : Int32) (hq : ModelOK X q) (σ : Mem) : CT X l y_M_addSensor prog_10_method_35_code 7 (some .int) 2 vI [.ref (xa X q), .int p1, .int p2, .int p3, .int p4, .int p5, .int p6] σ (f_M_addSensor q p1 p2 p3 p4 p5 p6 σ) := by
  refine CT_of (by decide +kernel) (Nat.le_of_ble_eq_true rfl) ?_
  intro p e s m args below meth c F hlk hr
  have F : FR p s m args c prog_10_method_35_code 7 "SensorHubModel" X := F
  show G X p l e (rmD 2) s m args below meth c 7 0 0 (QI X below args s vI) 0 [(0, .ref (xa X q)), (1, .int p1), (2, .int p2), (3, .int p3), (4, .int p4), (5, .int p5), (6, .int p6)] [] σ _
  unfold f_M_addSensor
  refine g_aload_n F d_M_addSensor_0 0 rfl ?_
  refine g_iconst F (v := 0) d_M_addSensor_1 (by decide) ?_
  refine g_putI F fw_8_35 hq.1 rfl d_M_addSensor_2 ?_
  refine g_ltM (fun σ1 _ => ?_)
  refine g_iload_n F d_M_addSensor_5 1 rfl ?_
  refine g_iconst F (v := 1) d_M_addSensor_6 (by decide) ?_
  refine g_bipush F (v := 20) d_M_addSensor_7 (by decide) ?_
  refine g_callS F (dp := 0) (As := [.int p1, .int (1 : Int32), .int (20 : Int32)]) (c_M_in l _ _ _ _) cs_8_42 rfl rfl (Nat.le_of_ble_eq_true rfl) ⟨Nat.le_of_ble_eq_true rfl, Nat.le_of_ble_eq_true rfl⟩ ⟨Nat.zero_le _, Nat.zero_le _⟩ d_M_addSensor_9 (fun r2 σ3 h1 => ?_)
  refine g_if_eq F (tgt := 74) d_M_addSensor_12 (by decide) (fun h2 => ?_) (fun h3 => ?_)
  · refine g_iconst F (v := (-1)) d_M_addSensor_74 (by decide) ?_
    exact g_iret F hlk hr d_M_addSensor_75
  refine g_iload_n F d_M_addSensor_15 2 rfl ?_
  refine g_iconst F (v := 1) d_M_addSensor_16 (by decide) ?_
  refine g_iconst F (v := 5) d_M_addSensor_17 (by decide) ?_
  refine g_callS F (dp := 0) (As := [.int p2, .int (1 : Int32), .int (5 : Int32)]) (c_M_in l _ _ _ _) cs_8_42 rfl rfl (Nat.le_of_ble_eq_true rfl) ⟨Nat.le_of_ble_eq_true rfl, Nat.le_of_ble_eq_true rfl⟩ ⟨Nat.zero_le _, Nat.zero_le _⟩ d_M_addSensor_18 (fun r4 σ5 h4 => ?_)
  refine g_if_eq F (tgt := 74) d_M_addSensor_21 (by decide) (fun h5 => ?_) (fun h6 => ?_)
  · refine g_iconst F (v := (-1)) d_M_addSensor_74 (by decide) ?_
    exact g_iret F hlk hr d_M_addSensor_75
  refine g_iload_n F d_M_addSensor_24 3 rfl ?_
  refine g_iconst F (v := 0) d_M_addSensor_25 (by decide) ?_
  refine g_bipush F (v := 99) d_M_addSensor_26 (by decide) ?_
  refine g_callS F (dp := 0) (As := [.int p3, .int (0 : Int32), .int (99 : Int32)]) (c_M_in l _ _ _ _) cs_8_42 rfl rfl (Nat.le_of_ble_eq_true rfl) ⟨Nat.le_of_ble_eq_true rfl, Nat.le_of_ble_eq_true rfl⟩ ⟨Nat.zero_le _, Nat.zero_le _⟩ d_M_addSensor_28 (fun r6 σ7 h7 => ?_)
  refine g_if_eq F (tgt := 74) d_M_addSensor_31 (by decide) (fun h8 => ?_) (fun h9 => ?_)
  · refine g_iconst F (v := (-1)) d_M_addSensor_74 (by decide) ?_
    exact g_iret F hlk hr d_M_addSensor_75
  refine g_iload F d_M_addSensor_34 4 rfl ?_
  refine g_iconst F (v := 0) d_M_addSensor_36 (by decide) ?_
  refine g_sipush F (v := 999) d_M_addSensor_37 (by decide) ?_
  refine g_callS F (dp := 0) (As := [.int p4, .int (0 : Int32), .int (999 : Int32)]) (c_M_in l _ _ _ _) cs_8_42 rfl rfl (Nat.le_of_ble_eq_true rfl) ⟨Nat.le_of_ble_eq_true rfl, Nat.le_of_ble_eq_true rfl⟩ ⟨Nat.zero_le _, Nat.zero_le _⟩ d_M_addSensor_40 (fun r8 σ9 h10 => ?_)
  refine g_if_eq F (tgt := 74) d_M_addSensor_43 (by decide) (fun h11 => ?_) (fun h12 => ?_)
  · refine g_iconst F (v := (-1)) d_M_addSensor_74 (by decide) ?_
    exact g_iret F hlk hr d_M_addSensor_75
  refine g_iload F d_M_addSensor_46 5 rfl ?_
  refine g_iconst F (v := 0) d_M_addSensor_48 (by decide) ?_
  refine g_bipush F (v := 9) d_M_addSensor_49 (by decide) ?_
  refine g_callS F (dp := 0) (As := [.int p5, .int (0 : Int32), .int (9 : Int32)]) (c_M_in l _ _ _ _) cs_8_42 rfl rfl (Nat.le_of_ble_eq_true rfl) ⟨Nat.le_of_ble_eq_true rfl, Nat.le_of_ble_eq_true rfl⟩ ⟨Nat.zero_le _, Nat.zero_le _⟩ d_M_addSensor_51 (fun r10 σ11 h13 => ?_)
  refine g_if_eq F (tgt := 74) d_M_addSensor_54 (by decide) (fun h14 => ?_) (fun h15 => ?_)
  · refine g_iconst F (v := (-1)) d_M_addSensor_74 (by decide) ?_
    exact g_iret F hlk hr d_M_addSensor_75
  refine g_iload F d_M_addSensor_57 5 rfl ?_
  refine g_iload_n F d_M_addSensor_59 1 rfl ?_
  refine g_icmp_ge F (tgt := 74) d_M_addSensor_60 (by decide) (fun h16 => ?_) (fun h17 => ?_)
  · refine g_iconst F (v := (-1)) d_M_addSensor_74 (by decide) ?_
    exact g_iret F hlk hr d_M_addSensor_75
  refine g_iload F d_M_addSensor_63 6 rfl ?_
  refine g_iconst F (v := 1) d_M_addSensor_65 (by decide) ?_
  refine g_bipush F (v := 50) d_M_addSensor_66 (by decide) ?_
  refine g_callS F (dp := 0) (As := [.int p6, .int (1 : Int32), .int (50 : Int32)]) (c_M_in l _ _ _ _) cs_8_42 rfl rfl (Nat.le_of_ble_eq_true rfl) ⟨Nat.le_of_ble_eq_true rfl, Nat.le_of_ble_eq_true rfl⟩ ⟨Nat.zero_le _, Nat.zero_le _⟩ d_M_addSensor_68 (fun r12 σ13 h18 => ?_)
  refine g_if_ne F (tgt := 76) d_M_addSensor_71 (by decide) (fun h19 => ?_) (fun h20 => ?_)
  · refine g_iconst F (v := (-1)) d_M_addSensor_74 (by decide) ?_
    exact g_iret F hlk hr d_M_addSensor_75
  refine g_aload_n F d_M_addSensor_76 0 rfl ?_
  refine g_getR F fs_8_7 hq.1 rfl d_M_addSensor_77 ?_
  refine g_iconst F (v := 1) d_M_addSensor_80 (by decide) ?_
  refine g_ialdC F (n := 481) 1 (by decide) (by decide) hq.2.1 d_M_addSensor_81 ?_
  refine g_bipush F (v := 8) d_M_addSensor_82 (by decide) ?_
  refine g_icmp_ne F (tgt := 90) d_M_addSensor_84 (by decide) (fun h21 => ?_) (fun h22 => ?_)
  · refine g_bipush F (v := (-3)) d_M_addSensor_87 (by decide) ?_
    exact g_iret F hlk hr d_M_addSensor_89
  refine g_aload_n F d_M_addSensor_90 0 rfl ?_
  refine g_callV F (dp := 0) (ci := 8) (As := []) (c_M_keep l _ hq _) cv_8_117 hq.1 rfl rfl rfl (Nat.le_of_ble_eq_true rfl) ⟨Nat.le_of_ble_eq_true rfl, Nat.le_of_ble_eq_true rfl⟩ ⟨Nat.zero_le _, Nat.zero_le _⟩ d_M_addSensor_91 (fun _ σ15 h23 => ?_)
  refine g_aload_n F d_M_addSensor_94 0 rfl ?_
  refine g_iload_n F d_M_addSensor_95 1 rfl ?_
  refine g_iload_n F d_M_addSensor_96 2 rfl ?_
  refine g_iload_n F d_M_addSensor_97 3 rfl ?_
  refine g_iload F d_M_addSensor_98 4 rfl ?_
  refine g_iload F d_M_addSensor_100 5 rfl ?_
  refine g_iload F d_M_addSensor_102 6 rfl ?_
  refine g_callV F (dp := 1) (ci := 8) (As := [.int p1, .int p2, .int p3, .int p4, .int p5, .int p6]) (c_M_addPhysical l _ _ _ _ _ _ _ hq _) cv_8_120 hq.1 rfl rfl rfl (Nat.le_of_ble_eq_true rfl) ⟨Nat.le_of_ble_eq_true rfl, Nat.le_of_ble_eq_true rfl⟩ ⟨Nat.zero_le _, Nat.zero_le _⟩ d_M_addSensor_104 (fun r16 σ17 h24 => ?_)
  exact g_iret F hlk hr d_M_addSensor_107
def y_M_addDerived : MethodName := ⟨"SensorHubModel", "addDerived", "(III)I"⟩
theorem d_M_addDerived_0 : decode prog_10_method_36_code 0 = .ok (.aload_n 0, 1) := by decide +kernel
theorem d_M_addDerived_1 : decode prog_10_method_36_code 1 = .ok (.iconst 0, 1) := by decide +kernel
theorem d_M_addDerived_2 : decode prog_10_method_36_code 2 = .ok (.putfield 35, 3) := by decide +kernel
theorem d_M_addDerived_5 : decode prog_10_method_36_code 5 = .ok (.iload_n 1, 1) := by decide +kernel
theorem d_M_addDerived_6 : decode prog_10_method_36_code 6 = .ok (.iconst 0, 1) := by decide +kernel
theorem d_M_addDerived_7 : decode prog_10_method_36_code 7 = .ok (.iconst 3, 1) := by decide +kernel
theorem d_M_addDerived_8 : decode prog_10_method_36_code 8 = .ok (.invokestatic 42, 3) := by decide +kernel
theorem d_M_addDerived_11 : decode prog_10_method_36_code 11 = .ok (.ifCond .eq 37, 3) := by decide +kernel
theorem d_M_addDerived_14 : decode prog_10_method_36_code 14 = .ok (.aload_n 0, 1) := by decide +kernel
theorem d_M_addDerived_15 : decode prog_10_method_36_code 15 = .ok (.iload_n 2, 1) := by decide +kernel
theorem d_M_addDerived_16 : decode prog_10_method_36_code 16 = .ok (.invokevirtual 50, 3) := by decide +kernel
theorem d_M_addDerived_19 : decode prog_10_method_36_code 19 = .ok (.ifCond .eq 29, 3) := by decide +kernel
theorem d_M_addDerived_22 : decode prog_10_method_36_code 22 = .ok (.iload_n 1, 1) := by decide +kernel
theorem d_M_addDerived_23 : decode prog_10_method_36_code 23 = .ok (.iconst 3, 1) := by decide +kernel
theorem d_M_addDerived_24 : decode prog_10_method_36_code 24 = .ok (.if_icmp .ne 16, 3) := by decide +kernel
theorem d_M_addDerived_27 : decode prog_10_method_36_code 27 = .ok (.iload_n 3, 1) := by decide +kernel
theorem d_M_addDerived_28 : decode prog_10_method_36_code 28 = .ok (.iconst 1, 1) := by decide +kernel
theorem d_M_addDerived_29 : decode prog_10_method_36_code 29 = .ok (.bipush 8, 2) := by decide +kernel
theorem d_M_addDerived_31 : decode prog_10_method_36_code 31 = .ok (.invokestatic 42, 3) := by decide +kernel
theorem d_M_addDerived_34 : decode prog_10_method_36_code 34 = .ok (.ifCond .ne 16, 3) := by decide +kernel
theorem d_M_addDerived_37 : decode prog_10_method_36_code 37 = .ok (.goto 11, 3) := by decide +kernel
theorem d_M_addDerived_40 : decode prog_10_method_36_code 40 = .ok (.aload_n 0, 1) := by decide +kernel
theorem d_M_addDerived_41 : decode prog_10_method_36_code 41 = .ok (.iload_n 3, 1) := by decide +kernel
theorem d_M_addDerived_42 : decode prog_10_method_36_code 42 = .ok (.invokevirtual 50, 3) := by decide +kernel
theorem d_M_addDerived_45 : decode prog_10_method_36_code 45 = .ok (.ifCond .ne 5, 3) := by decide +kernel
theorem d_M_addDerived_48 : decode prog_10_method_36_code 48 = .ok (.iconst (-1), 1) := by decide +kernel
theorem d_M_addDerived_49 : decode prog_10_method_36_code 49 = .ok (.ireturn, 1) := by decide +kernel
theorem d_M_addDerived_50 : decode prog_10_method_36_code 50 = .ok (.aload_n 0, 1) := by decide +kernel
theorem d_M_addDerived_51 : decode prog_10_method_36_code 51 = .ok (.getfield 7, 3) := by decide +kernel
theorem d_M_addDerived_54 : decode prog_10_method_36_code 54 = .ok (.iconst 1, 1) := by decide +kernel
theorem d_M_addDerived_55 : decode prog_10_method_36_code 55 = .ok (.iaload, 1) := by decide +kernel
theorem d_M_addDerived_56 : decode prog_10_method_36_code 56 = .ok (.bipush 8, 2) := by decide +kernel
theorem d_M_addDerived_58 : decode prog_10_method_36_code 58 = .ok (.if_icmp .ne 6, 3) := by decide +kernel
theorem d_M_addDerived_61 : decode prog_10_method_36_code 61 = .ok (.bipush (-3), 2) := by decide +kernel
theorem d_M_addDerived_63 : decode prog_10_method_36_code 63 = .ok (.ireturn, 1) := by decide +kernel
theorem d_M_addDerived_64 : decode prog_10_method_36_code 64 = .ok (.aload_n 0, 1) := by decide +kernel
theorem d_M_addDerived_65 : decode prog_10_method_36_code 65 = .ok (.invokevirtual 117, 3) := by decide +kernel
theorem d_M_addDerived_68 : decode prog_10_method_36_code 68 = .ok (.aload_n 0, 1) := by decide +kernel
theorem d_M_addDerived_69 : decode prog_10_method_36_code 69 = .ok (.iload_n 1, 1) := by decide +kernel
theorem d_M_addDerived_70 : decode prog_10_method_36_code 70 = .ok (.iload_n 2, 1) := by decide +kernel
theorem d_M_addDerived_71 : decode prog_10_method_36_code 71 = .ok (.iload_n 3, 1) := by decide +kernel
theorem d_M_addDerived_72 : decode prog_10_method_36_code 72 = .ok (.iconst 0, 1) := by decide +kernel
theorem d_M_addDerived_73 : decode prog_10_method_36_code 73 = .ok (.iconst 0, 1) := by decide +kernel
theorem d_M_addDerived_74 : decode prog_10_method_36_code 74 = .ok (.invokevirtual 113, 3) := by decide +kernel
theorem d_M_addDerived_77 : decode prog_10_method_36_code 77 = .ok (.ireturn, 1) := by decide +kernel
def f_M_addDerived (q : Nat) (p1 : Int32) (p2 : Int32) (p3 : Int32) (σ : Mem) : Option (Int32 × Mem) :=
  lt (wr σ q 0 (0 : Int32)) fun σ1 =>
  bd (f_M_in p1 (0 : Int32) (3 : Int32) σ1) fun r2 σ3 =>
  if r2 = 0 then
    some ((-1 : Int32), σ3)
  else
    bd (f_M_isSensor q p2 σ3) fun r4 σ5 =>
    if r4 = 0 then
      some ((-1 : Int32), σ5)
    else
      if p1 = (3 : Int32) then
        bd (f_M_in p3 (1 : Int32) (8 : Int32) σ5) fun r6 σ7 =>
        if r6 = 0 then
          some ((-1 : Int32), σ7)
        else
          if (σ7 (q + 1) 1) = (8 : Int32) then
            some ((-3 : Int32), σ7)
          else
            bd (f_M_keep q σ7) fun _ σ9 =>
            bd (f_M_addGiven q p1 p2 p3 (0 : Int32) (0 : Int32) σ9) fun r10 σ11 =>
            some (r10, σ11)
      else
        bd (f_M_isSensor q p3 σ5) fun r12 σ13 =>
        if r12 = 0 then
          some ((-1 : Int32), σ13)
        else
          if (σ13 (q + 1) 1) = (8 : Int32) then
            some ((-3 : Int32), σ13)
          else
            bd (f_M_keep q σ13) fun _ σ15 =>
            bd (f_M_addGiven q p1 p2 p3 (0 : Int32) (0 : Int32) σ15) fun r16 σ17 =>
            some (r16, σ17)
set_option maxRecDepth 100000 in
set_option maxHeartbeats 4000000 in
theorem c_M_addDerived {X : CX} (l : Launch) (q : Nat) (p1 : Int32) (p2 : Int32) (p3 : Int32) (hq : ModelOK X q) (σ : Mem) : CT X l y_M_addDerived prog_10_method_36_code 4 (some .int) 2 vI [.ref (xa X q), .int p1, .int p2, .int p3] σ (f_M_addDerived q p1 p2 p3 σ) := by
  refine CT_of (by decide +kernel) (Nat.le_of_ble_eq_true rfl) ?_
  intro p e s m args below meth c F hlk hr
  have F : FR p s m args c prog_10_method_36_code 4 "SensorHubModel" X := F
  show G X p l e (rmD 2) s m args below meth c 4 0 0 (QI X below args s vI) 0 [(0, .ref (xa X q)), (1, .int p1), (2, .int p2), (3, .int p3)] [] σ _
  unfold f_M_addDerived
  refine g_aload_n F d_M_addDerived_0 0 rfl ?_
  refine g_iconst F (v := 0) d_M_addDerived_1 (by decide) ?_
  refine g_putI F fw_8_35 hq.1 rfl d_M_addDerived_2 ?_
  refine g_ltM (fun σ1 _ => ?_)
  refine g_iload_n F d_M_addDerived_5 1 rfl ?_
  refine g_iconst F (v := 0) d_M_addDerived_6 (by decide) ?_
  refine g_iconst F (v := 3) d_M_addDerived_7 (by decide) ?_
  refine g_callS F (dp := 0) (As := [.int p1, .int (0 : Int32), .int (3 : Int32)]) (c_M_in l _ _ _ _) cs_8_42 rfl rfl (Nat.le_of_ble_eq_true rfl) ⟨Nat.le_of_ble_eq_true rfl, Nat.le_of_ble_eq_true rfl⟩ ⟨Nat.zero_le _, Nat.zero_le _⟩ d_M_addDerived_8 (fun r2 σ3 h1 => ?_)
  refine g_if_eq F (tgt := 48) d_M_addDerived_11 (by decide) (fun h2 => ?_) (fun h3 => ?_)
  · refine g_iconst F (v := (-1)) d_M_addDerived_48 (by decide) ?_
    exact g_iret F hlk hr d_M_addDerived_49
  refine g_aload_n F d_M_addDerived_14 0 rfl ?_
  refine g_iload_n F d_M_addDerived_15 2 rfl ?_
  refine g_callV F (dp := 1) (ci := 8) (As := [.int p2]) (c_M_isSensor l _ _ hq _) cv_8_50 hq.1 rfl rfl rfl (Nat.le_of_ble_eq_true rfl) ⟨Nat.le_of_ble_eq_true rfl, Nat.le_of_ble_eq_true rfl⟩ ⟨Nat.zero_le _, Nat.zero_le _⟩ d_M_addDerived_16 (fun r4 σ5 h4 => ?_)
  refine g_if_eq F (tgt := 48) d_M_addDerived_19 (by decide) (fun h5 => ?_) (fun h6 => ?_)
  · refine g_iconst F (v := (-1)) d_M_addDerived_48 (by decide) ?_
    exact g_iret F hlk hr d_M_addDerived_49
  refine g_iload_n F d_M_addDerived_22 1 rfl ?_
  refine g_iconst F (v := 3) d_M_addDerived_23 (by decide) ?_
  refine g_icmp_ne F (tgt := 40) d_M_addDerived_24 (by decide) (fun h7 => ?_) (fun h8 => ?_)
  · refine g_iload_n F d_M_addDerived_27 3 rfl ?_
    refine g_iconst F (v := 1) d_M_addDerived_28 (by decide) ?_
    refine g_bipush F (v := 8) d_M_addDerived_29 (by decide) ?_
    refine g_callS F (dp := 0) (As := [.int p3, .int (1 : Int32), .int (8 : Int32)]) (c_M_in l _ _ _ _) cs_8_42 rfl rfl (Nat.le_of_ble_eq_true rfl) ⟨Nat.le_of_ble_eq_true rfl, Nat.le_of_ble_eq_true rfl⟩ ⟨Nat.zero_le _, Nat.zero_le _⟩ d_M_addDerived_31 (fun r6 σ7 h9 => ?_)
    refine g_if_ne F (tgt := 50) d_M_addDerived_34 (by decide) (fun h10 => ?_) (fun h11 => ?_)
    · refine g_goto F (tgt := 48) d_M_addDerived_37 (by decide) ?_
      refine g_iconst F (v := (-1)) d_M_addDerived_48 (by decide) ?_
      exact g_iret F hlk hr d_M_addDerived_49
    refine g_aload_n F d_M_addDerived_50 0 rfl ?_
    refine g_getR F fs_8_7 hq.1 rfl d_M_addDerived_51 ?_
    refine g_iconst F (v := 1) d_M_addDerived_54 (by decide) ?_
    refine g_ialdC F (n := 481) 1 (by decide) (by decide) hq.2.1 d_M_addDerived_55 ?_
    refine g_bipush F (v := 8) d_M_addDerived_56 (by decide) ?_
    refine g_icmp_ne F (tgt := 64) d_M_addDerived_58 (by decide) (fun h12 => ?_) (fun h13 => ?_)
    · refine g_bipush F (v := (-3)) d_M_addDerived_61 (by decide) ?_
      exact g_iret F hlk hr d_M_addDerived_63
    refine g_aload_n F d_M_addDerived_64 0 rfl ?_
    refine g_callV F (dp := 0) (ci := 8) (As := []) (c_M_keep l _ hq _) cv_8_117 hq.1 rfl rfl rfl (Nat.le_of_ble_eq_true rfl) ⟨Nat.le_of_ble_eq_true rfl, Nat.le_of_ble_eq_true rfl⟩ ⟨Nat.zero_le _, Nat.zero_le _⟩ d_M_addDerived_65 (fun _ σ9 h14 => ?_)
    refine g_aload_n F d_M_addDerived_68 0 rfl ?_
    refine g_iload_n F d_M_addDerived_69 1 rfl ?_
    refine g_iload_n F d_M_addDerived_70 2 rfl ?_
    refine g_iload_n F d_M_addDerived_71 3 rfl ?_
    refine g_iconst F (v := 0) d_M_addDerived_72 (by decide) ?_
    refine g_iconst F (v := 0) d_M_addDerived_73 (by decide) ?_
    refine g_callV F (dp := 0) (ci := 8) (As := [.int p1, .int p2, .int p3, .int (0 : Int32), .int (0 : Int32)]) (c_M_addGiven l _ _ _ _ _ _ hq _) cv_8_113 hq.1 rfl rfl rfl (Nat.le_of_ble_eq_true rfl) ⟨Nat.le_of_ble_eq_true rfl, Nat.le_of_ble_eq_true rfl⟩ ⟨Nat.zero_le _, Nat.zero_le _⟩ d_M_addDerived_74 (fun r10 σ11 h15 => ?_)
    exact g_iret F hlk hr d_M_addDerived_77
  refine g_aload_n F d_M_addDerived_40 0 rfl ?_
  refine g_iload_n F d_M_addDerived_41 3 rfl ?_
  refine g_callV F (dp := 1) (ci := 8) (As := [.int p3]) (c_M_isSensor l _ _ hq _) cv_8_50 hq.1 rfl rfl rfl (Nat.le_of_ble_eq_true rfl) ⟨Nat.le_of_ble_eq_true rfl, Nat.le_of_ble_eq_true rfl⟩ ⟨Nat.zero_le _, Nat.zero_le _⟩ d_M_addDerived_42 (fun r12 σ13 h16 => ?_)
  refine g_if_ne F (tgt := 50) d_M_addDerived_45 (by decide) (fun h17 => ?_) (fun h18 => ?_)
  · refine g_iconst F (v := (-1)) d_M_addDerived_48 (by decide) ?_
    exact g_iret F hlk hr d_M_addDerived_49
  refine g_aload_n F d_M_addDerived_50 0 rfl ?_
  refine g_getR F fs_8_7 hq.1 rfl d_M_addDerived_51 ?_
  refine g_iconst F (v := 1) d_M_addDerived_54 (by decide) ?_
  refine g_ialdC F (n := 481) 1 (by decide) (by decide) hq.2.1 d_M_addDerived_55 ?_
  refine g_bipush F (v := 8) d_M_addDerived_56 (by decide) ?_
  refine g_icmp_ne F (tgt := 64) d_M_addDerived_58 (by decide) (fun h19 => ?_) (fun h20 => ?_)
  · refine g_bipush F (v := (-3)) d_M_addDerived_61 (by decide) ?_
    exact g_iret F hlk hr d_M_addDerived_63
  refine g_aload_n F d_M_addDerived_64 0 rfl ?_
  refine g_callV F (dp := 0) (ci := 8) (As := []) (c_M_keep l _ hq _) cv_8_117 hq.1 rfl rfl rfl (Nat.le_of_ble_eq_true rfl) ⟨Nat.le_of_ble_eq_true rfl, Nat.le_of_ble_eq_true rfl⟩ ⟨Nat.zero_le _, Nat.zero_le _⟩ d_M_addDerived_65 (fun _ σ15 h21 => ?_)
  refine g_aload_n F d_M_addDerived_68 0 rfl ?_
  refine g_iload_n F d_M_addDerived_69 1 rfl ?_
  refine g_iload_n F d_M_addDerived_70 2 rfl ?_
  refine g_iload_n F d_M_addDerived_71 3 rfl ?_
  refine g_iconst F (v := 0) d_M_addDerived_72 (by decide) ?_
  refine g_iconst F (v := 0) d_M_addDerived_73 (by decide) ?_
  refine g_callV F (dp := 0) (ci := 8) (As := [.int p1, .int p2, .int p3, .int (0 : Int32), .int (0 : Int32)]) (c_M_addGiven l _ _ _ _ _ _ hq _) cv_8_113 hq.1 rfl rfl rfl (Nat.le_of_ble_eq_true rfl) ⟨Nat.le_of_ble_eq_true rfl, Nat.le_of_ble_eq_true rfl⟩ ⟨Nat.zero_le _, Nat.zero_le _⟩ d_M_addDerived_74 (fun r16 σ17 h22 => ?_)
  exact g_iret F hlk hr d_M_addDerived_77
def y_M_addGap : MethodName := ⟨"SensorHubModel", "addGap", "(III)I"⟩
theorem d_M_addGap_0 : decode prog_10_method_37_code 0 = .ok (.sipush 379, 3) := by decide +kernel
theorem d_M_addGap_3 : decode prog_10_method_37_code 3 = .ok (.iconst 3, 1) := by decide +kernel
theorem d_M_addGap_4 : decode prog_10_method_37_code 4 = .ok (.aload_n 0, 1) := by decide +kernel
theorem d_M_addGap_5 : decode prog_10_method_37_code 5 = .ok (.getfield 7, 3) := by decide +kernel
theorem d_M_addGap_8 : decode prog_10_method_37_code 8 = .ok (.iconst 2, 1) := by decide +kernel
theorem d_M_addGap_9 : decode prog_10_method_37_code 9 = .ok (.iaload, 1) := by decide +kernel
theorem d_M_addGap_10 : decode prog_10_method_37_code 10 = .ok (.imul, 1) := by decide +kernel
theorem d_M_addGap_11 : decode prog_10_method_37_code 11 = .ok (.iadd, 1) := by decide +kernel
theorem d_M_addGap_12 : decode prog_10_method_37_code 12 = .ok (.istore 4, 2) := by decide +kernel
theorem d_M_addGap_14 : decode prog_10_method_37_code 14 = .ok (.aload_n 0, 1) := by decide +kernel
theorem d_M_addGap_15 : decode prog_10_method_37_code 15 = .ok (.getfield 7, 3) := by decide +kernel
theorem d_M_addGap_18 : decode prog_10_method_37_code 18 = .ok (.iload 4, 2) := by decide +kernel
theorem d_M_addGap_20 : decode prog_10_method_37_code 20 = .ok (.iload_n 1, 1) := by decide +kernel
theorem d_M_addGap_21 : decode prog_10_method_37_code 21 = .ok (.iastore, 1) := by decide +kernel
theorem d_M_addGap_22 : decode prog_10_method_37_code 22 = .ok (.aload_n 0, 1) := by decide +kernel
theorem d_M_addGap_23 : decode prog_10_method_37_code 23 = .ok (.getfield 7, 3) := by decide +kernel
theorem d_M_addGap_26 : decode prog_10_method_37_code 26 = .ok (.iload 4, 2) := by decide +kernel
theorem d_M_addGap_28 : decode prog_10_method_37_code 28 = .ok (.iconst 1, 1) := by decide +kernel
theorem d_M_addGap_29 : decode prog_10_method_37_code 29 = .ok (.iadd, 1) := by decide +kernel
theorem d_M_addGap_30 : decode prog_10_method_37_code 30 = .ok (.iload_n 2, 1) := by decide +kernel
theorem d_M_addGap_31 : decode prog_10_method_37_code 31 = .ok (.iastore, 1) := by decide +kernel
theorem d_M_addGap_32 : decode prog_10_method_37_code 32 = .ok (.aload_n 0, 1) := by decide +kernel
theorem d_M_addGap_33 : decode prog_10_method_37_code 33 = .ok (.getfield 7, 3) := by decide +kernel
theorem d_M_addGap_36 : decode prog_10_method_37_code 36 = .ok (.iload 4, 2) := by decide +kernel
theorem d_M_addGap_38 : decode prog_10_method_37_code 38 = .ok (.iconst 2, 1) := by decide +kernel
theorem d_M_addGap_39 : decode prog_10_method_37_code 39 = .ok (.iadd, 1) := by decide +kernel
theorem d_M_addGap_40 : decode prog_10_method_37_code 40 = .ok (.iload_n 3, 1) := by decide +kernel
theorem d_M_addGap_41 : decode prog_10_method_37_code 41 = .ok (.iastore, 1) := by decide +kernel
theorem d_M_addGap_42 : decode prog_10_method_37_code 42 = .ok (.aload_n 0, 1) := by decide +kernel
theorem d_M_addGap_43 : decode prog_10_method_37_code 43 = .ok (.getfield 7, 3) := by decide +kernel
theorem d_M_addGap_46 : decode prog_10_method_37_code 46 = .ok (.iconst 2, 1) := by decide +kernel
theorem d_M_addGap_47 : decode prog_10_method_37_code 47 = .ok (.dup2, 1) := by decide +kernel
theorem d_M_addGap_48 : decode prog_10_method_37_code 48 = .ok (.iaload, 1) := by decide +kernel
theorem d_M_addGap_49 : decode prog_10_method_37_code 49 = .ok (.iconst 1, 1) := by decide +kernel
theorem d_M_addGap_50 : decode prog_10_method_37_code 50 = .ok (.iadd, 1) := by decide +kernel
theorem d_M_addGap_51 : decode prog_10_method_37_code 51 = .ok (.iastore, 1) := by decide +kernel
theorem d_M_addGap_52 : decode prog_10_method_37_code 52 = .ok (.aload_n 0, 1) := by decide +kernel
theorem d_M_addGap_53 : decode prog_10_method_37_code 53 = .ok (.getfield 7, 3) := by decide +kernel
theorem d_M_addGap_56 : decode prog_10_method_37_code 56 = .ok (.iconst 2, 1) := by decide +kernel
theorem d_M_addGap_57 : decode prog_10_method_37_code 57 = .ok (.iaload, 1) := by decide +kernel
theorem d_M_addGap_58 : decode prog_10_method_37_code 58 = .ok (.ireturn, 1) := by decide +kernel
def f_M_addGap (q : Nat) (p1 : Int32) (p2 : Int32) (p3 : Int32) (σ : Mem) : Option (Int32 × Mem) :=
  lt ((379 : Int32) + ((3 : Int32) * (σ (q + 1) 2))) fun v1 =>
  if ib v1 481 then
    lt (wr σ (q + 1) v1.toNatClampNeg p1) fun σ2 =>
    if ib (v1 + (1 : Int32)) 481 then
      lt (wr σ2 (q + 1) (v1 + (1 : Int32)).toNatClampNeg p2) fun σ3 =>
      if ib (v1 + (2 : Int32)) 481 then
        lt (wr σ3 (q + 1) (v1 + (2 : Int32)).toNatClampNeg p3) fun σ4 =>
        lt (wr σ4 (q + 1) 2 ((σ4 (q + 1) 2) + (1 : Int32))) fun σ5 =>
        some (σ5 (q + 1) 2, σ5)
      else none
    else none
  else none
set_option maxRecDepth 100000 in
set_option maxHeartbeats 4000000 in
theorem c_M_addGap {X : CX} (l : Launch) (q : Nat) (p1 : Int32) (p2 : Int32) (p3 : Int32) (hq : ModelOK X q) (σ : Mem) : CT X l y_M_addGap prog_10_method_37_code 5 (some .int) 0 vI [.ref (xa X q), .int p1, .int p2, .int p3] σ (f_M_addGap q p1 p2 p3 σ) := by
  refine CT_of (by decide +kernel) (Nat.le_of_ble_eq_true rfl) ?_
  intro p e s m args below meth c F hlk hr
  have F : FR p s m args c prog_10_method_37_code 5 "SensorHubModel" X := F
  show G X p l e (rmD 0) s m args below meth c 5 0 0 (QI X below args s vI) 0 [(0, .ref (xa X q)), (1, .int p1), (2, .int p2), (3, .int p3)] [] σ _
  unfold f_M_addGap
  refine g_sipush F (v := 379) d_M_addGap_0 (by decide) ?_
  refine g_iconst F (v := 3) d_M_addGap_3 (by decide) ?_
  refine g_aload_n F d_M_addGap_4 0 rfl ?_
  refine g_getR F fs_8_7 hq.1 rfl d_M_addGap_5 ?_
  refine g_iconst F (v := 2) d_M_addGap_8 (by decide) ?_
  refine g_ialdC F (n := 481) 2 (by decide) (by decide) hq.2.1 d_M_addGap_9 ?_
  refine g_imul F d_M_addGap_10 ?_
  refine g_iadd F d_M_addGap_11 ?_
  refine g_ltI (fun v1 _ => ?_)
  refine g_istore F (ls' := [(4, .int v1), (0, .ref (xa X q)), (1, .int p1), (2, .int p2), (3, .int p3)]) d_M_addGap_12 (by decide) rfl ?_
  refine g_aload_n F d_M_addGap_14 1 rfl ?_
  refine g_getR F fs_8_7 hq.1 rfl d_M_addGap_15 ?_
  refine g_iload F d_M_addGap_18 0 rfl ?_
  refine g_iload_n F d_M_addGap_20 2 rfl ?_
  refine g_iast F (n := 481) hq.2.1 d_M_addGap_21 ?_
  refine g_ltM (fun σ2 _ => ?_)
  refine g_aload_n F d_M_addGap_22 1 rfl ?_
  refine g_getR F fs_8_7 hq.1 rfl d_M_addGap_23 ?_
  refine g_iload F d_M_addGap_26 0 rfl ?_
  refine g_iconst F (v := 1) d_M_addGap_28 (by decide) ?_
  refine g_iadd F d_M_addGap_29 ?_
  refine g_iload_n F d_M_addGap_30 3 rfl ?_
  refine g_iast F (n := 481) hq.2.1 d_M_addGap_31 ?_
  refine g_ltM (fun σ3 _ => ?_)
  refine g_aload_n F d_M_addGap_32 1 rfl ?_
  refine g_getR F fs_8_7 hq.1 rfl d_M_addGap_33 ?_
  refine g_iload F d_M_addGap_36 0 rfl ?_
  refine g_iconst F (v := 2) d_M_addGap_38 (by decide) ?_
  refine g_iadd F d_M_addGap_39 ?_
  refine g_iload_n F d_M_addGap_40 4 rfl ?_
  refine g_iast F (n := 481) hq.2.1 d_M_addGap_41 ?_
  refine g_ltM (fun σ4 _ => ?_)
  refine g_aload_n F d_M_addGap_42 1 rfl ?_
  refine g_getR F fs_8_7 hq.1 rfl d_M_addGap_43 ?_
  refine g_iconst F (v := 2) d_M_addGap_46 (by decide) ?_
  refine g_dup2 F d_M_addGap_47 rfl rfl ?_
  refine g_ialdC F (n := 481) 2 (by decide) (by decide) hq.2.1 d_M_addGap_48 ?_
  refine g_iconst F (v := 1) d_M_addGap_49 (by decide) ?_
  refine g_iadd F d_M_addGap_50 ?_
  refine g_iastC F (n := 481) 2 (by decide) (by decide) hq.2.1 d_M_addGap_51 ?_
  refine g_ltM (fun σ5 _ => ?_)
  refine g_aload_n F d_M_addGap_52 1 rfl ?_
  refine g_getR F fs_8_7 hq.1 rfl d_M_addGap_53 ?_
  refine g_iconst F (v := 2) d_M_addGap_56 (by decide) ?_
  refine g_ialdC F (n := 481) 2 (by decide) (by decide) hq.2.1 d_M_addGap_57 ?_
  exact g_iret F hlk hr d_M_addGap_58
def y_M_addOutage : MethodName := ⟨"SensorHubModel", "addOutage", "(III)I"⟩
theorem d_M_addOutage_0 : decode prog_10_method_38_code 0 = .ok (.aload_n 0, 1) := by decide +kernel
theorem d_M_addOutage_1 : decode prog_10_method_38_code 1 = .ok (.iconst 0, 1) := by decide +kernel
theorem d_M_addOutage_2 : decode prog_10_method_38_code 2 = .ok (.putfield 35, 3) := by decide +kernel
theorem d_M_addOutage_5 : decode prog_10_method_38_code 5 = .ok (.aload_n 0, 1) := by decide +kernel
theorem d_M_addOutage_6 : decode prog_10_method_38_code 6 = .ok (.iload_n 1, 1) := by decide +kernel
theorem d_M_addOutage_7 : decode prog_10_method_38_code 7 = .ok (.invokevirtual 124, 3) := by decide +kernel
theorem d_M_addOutage_10 : decode prog_10_method_38_code 10 = .ok (.ifCond .eq 25, 3) := by decide +kernel
theorem d_M_addOutage_13 : decode prog_10_method_38_code 13 = .ok (.iload_n 2, 1) := by decide +kernel
theorem d_M_addOutage_14 : decode prog_10_method_38_code 14 = .ok (.iconst 0, 1) := by decide +kernel
theorem d_M_addOutage_15 : decode prog_10_method_38_code 15 = .ok (.sipush 9999, 3) := by decide +kernel
theorem d_M_addOutage_18 : decode prog_10_method_38_code 18 = .ok (.invokestatic 42, 3) := by decide +kernel
theorem d_M_addOutage_21 : decode prog_10_method_38_code 21 = .ok (.ifCond .eq 14, 3) := by decide +kernel
theorem d_M_addOutage_24 : decode prog_10_method_38_code 24 = .ok (.iload_n 3, 1) := by decide +kernel
theorem d_M_addOutage_25 : decode prog_10_method_38_code 25 = .ok (.iload_n 2, 1) := by decide +kernel
theorem d_M_addOutage_26 : decode prog_10_method_38_code 26 = .ok (.sipush 9999, 3) := by decide +kernel
theorem d_M_addOutage_29 : decode prog_10_method_38_code 29 = .ok (.invokestatic 42, 3) := by decide +kernel
theorem d_M_addOutage_32 : decode prog_10_method_38_code 32 = .ok (.ifCond .ne 5, 3) := by decide +kernel
theorem d_M_addOutage_35 : decode prog_10_method_38_code 35 = .ok (.iconst (-1), 1) := by decide +kernel
theorem d_M_addOutage_36 : decode prog_10_method_38_code 36 = .ok (.ireturn, 1) := by decide +kernel
theorem d_M_addOutage_37 : decode prog_10_method_38_code 37 = .ok (.aload_n 0, 1) := by decide +kernel
theorem d_M_addOutage_38 : decode prog_10_method_38_code 38 = .ok (.getfield 7, 3) := by decide +kernel
theorem d_M_addOutage_41 : decode prog_10_method_38_code 41 = .ok (.iconst 2, 1) := by decide +kernel
theorem d_M_addOutage_42 : decode prog_10_method_38_code 42 = .ok (.iaload, 1) := by decide +kernel
theorem d_M_addOutage_43 : decode prog_10_method_38_code 43 = .ok (.iconst 4, 1) := by decide +kernel
theorem d_M_addOutage_44 : decode prog_10_method_38_code 44 = .ok (.if_icmp .ne 6, 3) := by decide +kernel
theorem d_M_addOutage_47 : decode prog_10_method_38_code 47 = .ok (.bipush (-3), 2) := by decide +kernel
theorem d_M_addOutage_49 : decode prog_10_method_38_code 49 = .ok (.ireturn, 1) := by decide +kernel
theorem d_M_addOutage_50 : decode prog_10_method_38_code 50 = .ok (.aload_n 0, 1) := by decide +kernel
theorem d_M_addOutage_51 : decode prog_10_method_38_code 51 = .ok (.invokevirtual 117, 3) := by decide +kernel
theorem d_M_addOutage_54 : decode prog_10_method_38_code 54 = .ok (.aload_n 0, 1) := by decide +kernel
theorem d_M_addOutage_55 : decode prog_10_method_38_code 55 = .ok (.iload_n 1, 1) := by decide +kernel
theorem d_M_addOutage_56 : decode prog_10_method_38_code 56 = .ok (.iload_n 2, 1) := by decide +kernel
theorem d_M_addOutage_57 : decode prog_10_method_38_code 57 = .ok (.iload_n 3, 1) := by decide +kernel
theorem d_M_addOutage_58 : decode prog_10_method_38_code 58 = .ok (.invokevirtual 127, 3) := by decide +kernel
theorem d_M_addOutage_61 : decode prog_10_method_38_code 61 = .ok (.ireturn, 1) := by decide +kernel
theorem cv_8_124 : CSV "SensorHubModel" 124 y_M_isPhysical prog_10_method_9_code 2 (some .boolean) 1 := ⟨gw_I 973 (by decide +kernel) rfl, gw_I 975 (by decide +kernel) rfl, gw_I 30 (by decide +kernel) rfl, gw_I 78 (by decide +kernel) rfl, gw_I 976 (by decide +kernel) rfl, ⟨by decide +kernel, by decide +kernel⟩, by decide +kernel⟩
theorem cv_8_127 : CSV "SensorHubModel" 127 y_M_addGap prog_10_method_37_code 5 (some .int) 3 := ⟨gw_I 981 (by decide +kernel) rfl, gw_I 983 (by decide +kernel) rfl, gw_I 32 (by decide +kernel) rfl, gw_I 78 (by decide +kernel) rfl, gw_I 984 (by decide +kernel) rfl, ⟨by decide +kernel, by decide +kernel⟩, by decide +kernel⟩
def f_M_addOutage (q : Nat) (p1 : Int32) (p2 : Int32) (p3 : Int32) (σ : Mem) : Option (Int32 × Mem) :=
  lt (wr σ q 0 (0 : Int32)) fun σ1 =>
  bd (f_M_isPhysical q p1 σ1) fun r2 σ3 =>
  if r2 = 0 then
    some ((-1 : Int32), σ3)
  else
    bd (f_M_in p2 (0 : Int32) (9999 : Int32) σ3) fun r4 σ5 =>
    if r4 = 0 then
      some ((-1 : Int32), σ5)
    else
      bd (f_M_in p3 p2 (9999 : Int32) σ5) fun r6 σ7 =>
      if r6 = 0 then
        some ((-1 : Int32), σ7)
      else
        if (σ7 (q + 1) 2) = (4 : Int32) then
          some ((-3 : Int32), σ7)
        else
          bd (f_M_keep q σ7) fun _ σ9 =>
          bd (f_M_addGap q p1 p2 p3 σ9) fun r10 σ11 =>
          some (r10, σ11)
set_option maxRecDepth 100000 in
set_option maxHeartbeats 4000000 in
theorem c_M_addOutage {X : CX} (l : Launch) (q : Nat) (p1 : Int32) (p2 : Int32) (p3 : Int32) (hq : ModelOK X q) (σ : Mem) : CT X l y_M_addOutage prog_10_method_38_code 4 (some .int) 3 vI [.ref (xa X q), .int p1, .int p2, .int p3] σ (f_M_addOutage q p1 p2 p3 σ) := by
  refine CT_of (by decide +kernel) (Nat.le_of_ble_eq_true rfl) ?_
  intro p e s m args below meth c F hlk hr
  have F : FR p s m args c prog_10_method_38_code 4 "SensorHubModel" X := F
  show G X p l e (rmD 3) s m args below meth c 4 0 0 (QI X below args s vI) 0 [(0, .ref (xa X q)), (1, .int p1), (2, .int p2), (3, .int p3)] [] σ _
  unfold f_M_addOutage
  refine g_aload_n F d_M_addOutage_0 0 rfl ?_
  refine g_iconst F (v := 0) d_M_addOutage_1 (by decide) ?_
  refine g_putI F fw_8_35 hq.1 rfl d_M_addOutage_2 ?_
  refine g_ltM (fun σ1 _ => ?_)
  refine g_aload_n F d_M_addOutage_5 0 rfl ?_
  refine g_iload_n F d_M_addOutage_6 1 rfl ?_
  refine g_callV F (dp := 2) (ci := 8) (As := [.int p1]) (c_M_isPhysical l _ _ hq _) cv_8_124 hq.1 rfl rfl rfl (Nat.le_of_ble_eq_true rfl) ⟨Nat.le_of_ble_eq_true rfl, Nat.le_of_ble_eq_true rfl⟩ ⟨Nat.zero_le _, Nat.zero_le _⟩ d_M_addOutage_7 (fun r2 σ3 h1 => ?_)
  refine g_if_eq F (tgt := 35) d_M_addOutage_10 (by decide) (fun h2 => ?_) (fun h3 => ?_)
  · refine g_iconst F (v := (-1)) d_M_addOutage_35 (by decide) ?_
    exact g_iret F hlk hr d_M_addOutage_36
  refine g_iload_n F d_M_addOutage_13 2 rfl ?_
  refine g_iconst F (v := 0) d_M_addOutage_14 (by decide) ?_
  refine g_sipush F (v := 9999) d_M_addOutage_15 (by decide) ?_
  refine g_callS F (dp := 0) (As := [.int p2, .int (0 : Int32), .int (9999 : Int32)]) (c_M_in l _ _ _ _) cs_8_42 rfl rfl (Nat.le_of_ble_eq_true rfl) ⟨Nat.le_of_ble_eq_true rfl, Nat.le_of_ble_eq_true rfl⟩ ⟨Nat.zero_le _, Nat.zero_le _⟩ d_M_addOutage_18 (fun r4 σ5 h4 => ?_)
  refine g_if_eq F (tgt := 35) d_M_addOutage_21 (by decide) (fun h5 => ?_) (fun h6 => ?_)
  · refine g_iconst F (v := (-1)) d_M_addOutage_35 (by decide) ?_
    exact g_iret F hlk hr d_M_addOutage_36
  refine g_iload_n F d_M_addOutage_24 3 rfl ?_
  refine g_iload_n F d_M_addOutage_25 2 rfl ?_
  refine g_sipush F (v := 9999) d_M_addOutage_26 (by decide) ?_
  refine g_callS F (dp := 0) (As := [.int p3, .int p2, .int (9999 : Int32)]) (c_M_in l _ _ _ _) cs_8_42 rfl rfl (Nat.le_of_ble_eq_true rfl) ⟨Nat.le_of_ble_eq_true rfl, Nat.le_of_ble_eq_true rfl⟩ ⟨Nat.zero_le _, Nat.zero_le _⟩ d_M_addOutage_29 (fun r6 σ7 h7 => ?_)
  refine g_if_ne F (tgt := 37) d_M_addOutage_32 (by decide) (fun h8 => ?_) (fun h9 => ?_)
  · refine g_iconst F (v := (-1)) d_M_addOutage_35 (by decide) ?_
    exact g_iret F hlk hr d_M_addOutage_36
  refine g_aload_n F d_M_addOutage_37 0 rfl ?_
  refine g_getR F fs_8_7 hq.1 rfl d_M_addOutage_38 ?_
  refine g_iconst F (v := 2) d_M_addOutage_41 (by decide) ?_
  refine g_ialdC F (n := 481) 2 (by decide) (by decide) hq.2.1 d_M_addOutage_42 ?_
  refine g_iconst F (v := 4) d_M_addOutage_43 (by decide) ?_
  refine g_icmp_ne F (tgt := 50) d_M_addOutage_44 (by decide) (fun h10 => ?_) (fun h11 => ?_)
  · refine g_bipush F (v := (-3)) d_M_addOutage_47 (by decide) ?_
    exact g_iret F hlk hr d_M_addOutage_49
  refine g_aload_n F d_M_addOutage_50 0 rfl ?_
  refine g_callV F (dp := 0) (ci := 8) (As := []) (c_M_keep l _ hq _) cv_8_117 hq.1 rfl rfl rfl (Nat.le_of_ble_eq_true rfl) ⟨Nat.le_of_ble_eq_true rfl, Nat.le_of_ble_eq_true rfl⟩ ⟨Nat.zero_le _, Nat.zero_le _⟩ d_M_addOutage_51 (fun _ σ9 h12 => ?_)
  refine g_aload_n F d_M_addOutage_54 0 rfl ?_
  refine g_iload_n F d_M_addOutage_55 1 rfl ?_
  refine g_iload_n F d_M_addOutage_56 2 rfl ?_
  refine g_iload_n F d_M_addOutage_57 3 rfl ?_
  refine g_callV F (dp := 0) (ci := 8) (As := [.int p1, .int p2, .int p3]) (c_M_addGap l _ _ _ _ hq _) cv_8_127 hq.1 rfl rfl rfl (Nat.le_of_ble_eq_true rfl) ⟨Nat.le_of_ble_eq_true rfl, Nat.le_of_ble_eq_true rfl⟩ ⟨Nat.zero_le _, Nat.zero_le _⟩ d_M_addOutage_58 (fun r10 σ11 h13 => ?_)
  exact g_iret F hlk hr d_M_addOutage_61
def y_M_clientMany : MethodName := ⟨"SensorHubModel", "clientMany", "()I"⟩
theorem d_M_clientMany_0 : decode prog_10_method_39_code 0 = .ok (.iconst 0, 1) := by decide +kernel
theorem d_M_clientMany_1 : decode prog_10_method_39_code 1 = .ok (.istore_n 1, 1) := by decide +kernel
theorem d_M_clientMany_2 : decode prog_10_method_39_code 2 = .ok (.iconst 0, 1) := by decide +kernel
theorem d_M_clientMany_3 : decode prog_10_method_39_code 3 = .ok (.istore_n 2, 1) := by decide +kernel
theorem d_M_clientMany_4 : decode prog_10_method_39_code 4 = .ok (.iload_n 2, 1) := by decide +kernel
theorem d_M_clientMany_5 : decode prog_10_method_39_code 5 = .ok (.bipush 8, 2) := by decide +kernel
theorem d_M_clientMany_7 : decode prog_10_method_39_code 7 = .ok (.if_icmp .ge 18, 3) := by decide +kernel
theorem d_M_clientMany_10 : decode prog_10_method_39_code 10 = .ok (.iload_n 1, 1) := by decide +kernel
theorem d_M_clientMany_11 : decode prog_10_method_39_code 11 = .ok (.aload_n 0, 1) := by decide +kernel
theorem d_M_clientMany_12 : decode prog_10_method_39_code 12 = .ok (.iload_n 2, 1) := by decide +kernel
theorem d_M_clientMany_13 : decode prog_10_method_39_code 13 = .ok (.iconst 0, 1) := by decide +kernel
theorem d_M_clientMany_14 : decode prog_10_method_39_code 14 = .ok (.invokevirtual 46, 3) := by decide +kernel
theorem d_M_clientMany_17 : decode prog_10_method_39_code 17 = .ok (.iadd, 1) := by decide +kernel
theorem d_M_clientMany_18 : decode prog_10_method_39_code 18 = .ok (.istore_n 1, 1) := by decide +kernel
theorem d_M_clientMany_19 : decode prog_10_method_39_code 19 = .ok (.iinc 2 1, 3) := by decide +kernel
theorem d_M_clientMany_22 : decode prog_10_method_39_code 22 = .ok (.goto (-18), 3) := by decide +kernel
theorem d_M_clientMany_25 : decode prog_10_method_39_code 25 = .ok (.iload_n 1, 1) := by decide +kernel
theorem d_M_clientMany_26 : decode prog_10_method_39_code 26 = .ok (.ireturn, 1) := by decide +kernel
def L_M_clientMany_4 (r0 : Nat) (k : Int32 → Mem → Option (Int32 × Mem)) : Nat → Int32 → Int32 → Mem → Option (Int32 × Mem)
  | 0, _, _, _ => none
  | n + 1, x1, x2, σ =>
    if (8 : Int32) ≤ x2 then
      k x1 σ
    else
      bd (f_M_client0 r0 x2 (0 : Int32) σ) fun r1 σ2 =>
      lt (x1 + r1) fun v3 =>
      L_M_clientMany_4 r0 k n v3 (x2 + 1) σ2
def f_M_clientMany (q : Nat) (σ : Mem) : Option (Int32 × Mem) :=
  L_M_clientMany_4 q (fun z4 σ5 =>
    some (z4, σ5)) FU (0 : Int32) (0 : Int32) σ
set_option maxRecDepth 100000 in
set_option maxHeartbeats 4000000 in
theorem l_L_M_clientMany_4 {X : CX} {p : Program} {l : Launch} {e : Env} {s : State} {m : MethodId} {args : Array Value} {below : List Frame} {meth : Method} {c : Code} (F : FR p s m args c prog_10_method_39_code 3 "SensorHubModel" X) (hlk : meth.locks = false) (hr : meth.sig.returnType = some .int) (r0 : Nat) (hr0 : ModelOK X r0) (k : Int32 → Mem → Option (Int32 × Mem)) (hk : ∀ (x1 : Int32) (σ : Mem), G X p l e (rmD 1) s m args below meth c 3 0 0 (QI X below args s vI) 25 [(1, .int x1)] [] σ (k x1 σ)) : ∀ (n : Nat) (x1 : Int32) (x2 : Int32) (σ : Mem), G X p l e (rmD 1) s m args below meth c 3 0 0 (QI X below args s vI) 4 [(0, .ref (xa X r0)), (1, .int x1), (2, .int x2)] [] σ (L_M_clientMany_4 r0 k n x1 x2 σ) := by
  intro n
  induction n with
  | zero => intros; exact g_no
  | succ n ih =>
    intro x1 x2 σ
    unfold L_M_clientMany_4
    refine g_iload_n F d_M_clientMany_4 2 rfl ?_
    refine g_bipush F (v := 8) d_M_clientMany_5 (by decide) ?_
    refine g_icmp_ge F (tgt := 25) d_M_clientMany_7 (by decide) (fun h1 => ?_) (fun h2 => ?_)
    · exact g_sub [1] rfl (hk _ _)
    refine g_iload_n F d_M_clientMany_10 1 rfl ?_
    refine g_aload_n F d_M_clientMany_11 0 rfl ?_
    refine g_iload_n F d_M_clientMany_12 2 rfl ?_
    refine g_iconst F (v := 0) d_M_clientMany_13 (by decide) ?_
    refine g_callV F (dp := 0) (ci := 8) (As := [.int x2, .int (0 : Int32)]) (c_M_client0 l _ _ _ hr0 _) cv_8_46 hr0.1 rfl rfl rfl (Nat.le_of_ble_eq_true rfl) ⟨Nat.le_of_ble_eq_true rfl, Nat.le_of_ble_eq_true rfl⟩ ⟨Nat.zero_le _, Nat.zero_le _⟩ d_M_clientMany_14 (fun r1 σ2 h3 => ?_)
    refine g_iadd F d_M_clientMany_17 ?_
    refine g_ltI (fun v3 _ => ?_)
    refine g_istore_n F (ls' := [(1, .int v3), (0, .ref (xa X r0)), (2, .int x2)]) d_M_clientMany_18 (by decide) rfl ?_
    refine g_iinc F (v := 1) (ls' := [(2, .int (x2 + 1)), (1, .int v3), (0, .ref (xa X r0))]) d_M_clientMany_19 2 rfl (by decide) (by decide) rfl ?_
    refine g_goto F (tgt := 4) d_M_clientMany_22 (by decide) ?_
    exact g_sub [2, 1, 0] rfl (ih _ _ _)
set_option maxRecDepth 100000 in
set_option maxHeartbeats 4000000 in
theorem c_M_clientMany {X : CX} (l : Launch) (q : Nat) (hq : ModelOK X q) (σ : Mem) : CT X l y_M_clientMany prog_10_method_39_code 3 (some .int) 1 vI [.ref (xa X q)] σ (f_M_clientMany q σ) := by
  refine CT_of (by decide +kernel) (Nat.le_of_ble_eq_true rfl) ?_
  intro p e s m args below meth c F hlk hr
  have F : FR p s m args c prog_10_method_39_code 3 "SensorHubModel" X := F
  show G X p l e (rmD 1) s m args below meth c 3 0 0 (QI X below args s vI) 0 [(0, .ref (xa X q))] [] σ _
  unfold f_M_clientMany
  refine g_iconst F (v := 0) d_M_clientMany_0 (by decide) ?_
  refine g_istore_n F (ls' := [(1, .int (0 : Int32)), (0, .ref (xa X q))]) d_M_clientMany_1 (by decide) rfl ?_
  refine g_iconst F (v := 0) d_M_clientMany_2 (by decide) ?_
  refine g_istore_n F (ls' := [(2, .int (0 : Int32)), (1, .int (0 : Int32)), (0, .ref (xa X q))]) d_M_clientMany_3 (by decide) rfl ?_
  refine g_sub [2, 1, 0] rfl (l_L_M_clientMany_4 F hlk hr _ hq _ (fun z4 σ5 => ?_) FU _ _ _)
  refine g_iload_n F d_M_clientMany_25 0 rfl ?_
  exact g_iret F hlk hr d_M_clientMany_26
def y_M_freeClient : MethodName := ⟨"SensorHubModel", "freeClient", "()I"⟩
theorem d_M_freeClient_0 : decode prog_10_method_40_code 0 = .ok (.iconst 0, 1) := by decide +kernel
theorem d_M_freeClient_1 : decode prog_10_method_40_code 1 = .ok (.istore_n 1, 1) := by decide +kernel
theorem d_M_freeClient_2 : decode prog_10_method_40_code 2 = .ok (.iload_n 1, 1) := by decide +kernel
theorem d_M_freeClient_3 : decode prog_10_method_40_code 3 = .ok (.bipush 8, 2) := by decide +kernel
theorem d_M_freeClient_5 : decode prog_10_method_40_code 5 = .ok (.if_icmp .ge 20, 3) := by decide +kernel
theorem d_M_freeClient_8 : decode prog_10_method_40_code 8 = .ok (.aload_n 0, 1) := by decide +kernel
theorem d_M_freeClient_9 : decode prog_10_method_40_code 9 = .ok (.iload_n 1, 1) := by decide +kernel
theorem d_M_freeClient_10 : decode prog_10_method_40_code 10 = .ok (.iconst 0, 1) := by decide +kernel
theorem d_M_freeClient_11 : decode prog_10_method_40_code 11 = .ok (.invokevirtual 46, 3) := by decide +kernel
theorem d_M_freeClient_14 : decode prog_10_method_40_code 14 = .ok (.ifCond .ne 5, 3) := by decide +kernel
theorem d_M_freeClient_17 : decode prog_10_method_40_code 17 = .ok (.iload_n 1, 1) := by decide +kernel
theorem d_M_freeClient_18 : decode prog_10_method_40_code 18 = .ok (.ireturn, 1) := by decide +kernel
theorem d_M_freeClient_19 : decode prog_10_method_40_code 19 = .ok (.iinc 1 1, 3) := by decide +kernel
theorem d_M_freeClient_22 : decode prog_10_method_40_code 22 = .ok (.goto (-20), 3) := by decide +kernel
theorem d_M_freeClient_25 : decode prog_10_method_40_code 25 = .ok (.bipush (-9), 2) := by decide +kernel
theorem d_M_freeClient_27 : decode prog_10_method_40_code 27 = .ok (.ireturn, 1) := by decide +kernel
def L_M_freeClient_2 (r0 : Nat) (k : Mem → Option (Int32 × Mem)) : Nat → Int32 → Mem → Option (Int32 × Mem)
  | 0, _, _ => none
  | n + 1, x1, σ =>
    if (8 : Int32) ≤ x1 then
      k σ
    else
      bd (f_M_client0 r0 x1 (0 : Int32) σ) fun r1 σ2 =>
      if r1 = 0 then some (x1, σ2) else L_M_freeClient_2 r0 k n (x1 + 1) σ2
def f_M_freeClient (q : Nat) (σ : Mem) : Option (Int32 × Mem) :=
  L_M_freeClient_2 q (fun σ3 =>
    some ((-9 : Int32), σ3)) FU (0 : Int32) σ
set_option maxRecDepth 100000 in
set_option maxHeartbeats 4000000 in
theorem l_L_M_freeClient_2 {X : CX} {p : Program} {l : Launch} {e : Env} {s : State} {m : MethodId} {args : Array Value} {below : List Frame} {meth : Method} {c : Code} (F : FR p s m args c prog_10_method_40_code 2 "SensorHubModel" X) (hlk : meth.locks = false) (hr : meth.sig.returnType = some .int) (r0 : Nat) (hr0 : ModelOK X r0) (k : Mem → Option (Int32 × Mem)) (hk : ∀  (σ : Mem), G X p l e (rmD 1) s m args below meth c 2 0 0 (QI X below args s vI) 25 [] [] σ (k σ)) : ∀ (n : Nat) (x1 : Int32) (σ : Mem), G X p l e (rmD 1) s m args below meth c 2 0 0 (QI X below args s vI) 2 [(0, .ref (xa X r0)), (1, .int x1)] [] σ (L_M_freeClient_2 r0 k n x1 σ) := by
  intro n
  induction n with
  | zero => intros; exact g_no
  | succ n ih =>
    intro x1 σ
    unfold L_M_freeClient_2
    refine g_iload_n F d_M_freeClient_2 1 rfl ?_
    refine g_bipush F (v := 8) d_M_freeClient_3 (by decide) ?_
    refine g_icmp_ge F (tgt := 25) d_M_freeClient_5 (by decide) (fun h1 => ?_) (fun h2 => ?_)
    · exact g_sub [] rfl (hk  _)
    refine g_aload_n F d_M_freeClient_8 0 rfl ?_
    refine g_iload_n F d_M_freeClient_9 1 rfl ?_
    refine g_iconst F (v := 0) d_M_freeClient_10 (by decide) ?_
    refine g_callV F (dp := 0) (ci := 8) (As := [.int x1, .int (0 : Int32)]) (c_M_client0 l _ _ _ hr0 _) cv_8_46 hr0.1 rfl rfl rfl (Nat.le_of_ble_eq_true rfl) ⟨Nat.le_of_ble_eq_true rfl, Nat.le_of_ble_eq_true rfl⟩ ⟨Nat.zero_le _, Nat.zero_le _⟩ d_M_freeClient_11 (fun r1 σ2 h3 => ?_)
    refine g_if_ne F (tgt := 19) d_M_freeClient_14 (by decide) (fun h4 => ?_) (fun h5 => ?_)
    · refine g_iload_n F d_M_freeClient_17 1 rfl ?_
      exact g_iret F hlk hr d_M_freeClient_18
    refine g_iinc F (v := 1) (ls' := [(1, .int (x1 + 1)), (0, .ref (xa X r0))]) d_M_freeClient_19 1 rfl (by decide) (by decide) rfl ?_
    refine g_goto F (tgt := 2) d_M_freeClient_22 (by decide) ?_
    exact g_sub [1, 0] rfl (ih _ _)
set_option maxRecDepth 100000 in
set_option maxHeartbeats 4000000 in
theorem c_M_freeClient {X : CX} (l : Launch) (q : Nat) (hq : ModelOK X q) (σ : Mem) : CT X l y_M_freeClient prog_10_method_40_code 2 (some .int) 1 vI [.ref (xa X q)] σ (f_M_freeClient q σ) := by
  refine CT_of (by decide +kernel) (Nat.le_of_ble_eq_true rfl) ?_
  intro p e s m args below meth c F hlk hr
  have F : FR p s m args c prog_10_method_40_code 2 "SensorHubModel" X := F
  show G X p l e (rmD 1) s m args below meth c 2 0 0 (QI X below args s vI) 0 [(0, .ref (xa X q))] [] σ _
  unfold f_M_freeClient
  refine g_iconst F (v := 0) d_M_freeClient_0 (by decide) ?_
  refine g_istore_n F (ls' := [(1, .int (0 : Int32)), (0, .ref (xa X q))]) d_M_freeClient_1 (by decide) rfl ?_
  refine g_sub [1, 0] rfl (l_L_M_freeClient_2 F hlk hr _ hq _ (fun σ3 => ?_) FU _ _)
  refine g_bipush F (v := (-9)) d_M_freeClient_25 (by decide) ?_
  exact g_iret F hlk hr d_M_freeClient_27
def y_M_canMeet : MethodName := ⟨"SensorHubModel", "canMeet", "(II)Z"⟩
theorem d_M_canMeet_0 : decode prog_10_method_41_code 0 = .ok (.iconst 1, 1) := by decide +kernel
theorem d_M_canMeet_1 : decode prog_10_method_41_code 1 = .ok (.istore_n 3, 1) := by decide +kernel
theorem d_M_canMeet_2 : decode prog_10_method_41_code 2 = .ok (.iconst 0, 1) := by decide +kernel
theorem d_M_canMeet_3 : decode prog_10_method_41_code 3 = .ok (.istore 4, 2) := by decide +kernel
theorem d_M_canMeet_5 : decode prog_10_method_41_code 5 = .ok (.iload 4, 2) := by decide +kernel
theorem d_M_canMeet_7 : decode prog_10_method_41_code 7 = .ok (.bipush 8, 2) := by decide +kernel
theorem d_M_canMeet_9 : decode prog_10_method_41_code 9 = .ok (.if_icmp .ge 27, 3) := by decide +kernel
theorem d_M_canMeet_12 : decode prog_10_method_41_code 12 = .ok (.aload_n 0, 1) := by decide +kernel
theorem d_M_canMeet_13 : decode prog_10_method_41_code 13 = .ok (.getfield 31, 3) := by decide +kernel
theorem d_M_canMeet_16 : decode prog_10_method_41_code 16 = .ok (.iload 4, 2) := by decide +kernel
theorem d_M_canMeet_18 : decode prog_10_method_41_code 18 = .ok (.iload 4, 2) := by decide +kernel
theorem d_M_canMeet_20 : decode prog_10_method_41_code 20 = .ok (.iload_n 1, 1) := by decide +kernel
theorem d_M_canMeet_21 : decode prog_10_method_41_code 21 = .ok (.if_icmp .ne 7, 3) := by decide +kernel
theorem d_M_canMeet_24 : decode prog_10_method_41_code 24 = .ok (.iconst 1, 1) := by decide +kernel
theorem d_M_canMeet_25 : decode prog_10_method_41_code 25 = .ok (.goto 4, 3) := by decide +kernel
theorem d_M_canMeet_28 : decode prog_10_method_41_code 28 = .ok (.iconst 0, 1) := by decide +kernel
theorem d_M_canMeet_29 : decode prog_10_method_41_code 29 = .ok (.bastore, 1) := by decide +kernel
theorem d_M_canMeet_30 : decode prog_10_method_41_code 30 = .ok (.iinc 4 1, 3) := by decide +kernel
theorem d_M_canMeet_33 : decode prog_10_method_41_code 33 = .ok (.goto (-28), 3) := by decide +kernel
theorem d_M_canMeet_36 : decode prog_10_method_41_code 36 = .ok (.iload_n 1, 1) := by decide +kernel
theorem d_M_canMeet_37 : decode prog_10_method_41_code 37 = .ok (.istore 4, 2) := by decide +kernel
theorem d_M_canMeet_39 : decode prog_10_method_41_code 39 = .ok (.iload 4, 2) := by decide +kernel
theorem d_M_canMeet_41 : decode prog_10_method_41_code 41 = .ok (.ifCond .lt 113, 3) := by decide +kernel
theorem d_M_canMeet_44 : decode prog_10_method_41_code 44 = .ok (.aload_n 0, 1) := by decide +kernel
theorem d_M_canMeet_45 : decode prog_10_method_41_code 45 = .ok (.iload 4, 2) := by decide +kernel
theorem d_M_canMeet_47 : decode prog_10_method_41_code 47 = .ok (.iconst 0, 1) := by decide +kernel
theorem d_M_canMeet_48 : decode prog_10_method_41_code 48 = .ok (.invokevirtual 54, 3) := by decide +kernel
theorem d_M_canMeet_51 : decode prog_10_method_41_code 51 = .ok (.istore 5, 2) := by decide +kernel
theorem d_M_canMeet_53 : decode prog_10_method_41_code 53 = .ok (.aload_n 0, 1) := by decide +kernel
theorem d_M_canMeet_54 : decode prog_10_method_41_code 54 = .ok (.getfield 31, 3) := by decide +kernel
theorem d_M_canMeet_57 : decode prog_10_method_41_code 57 = .ok (.iload 4, 2) := by decide +kernel
theorem d_M_canMeet_59 : decode prog_10_method_41_code 59 = .ok (.baload, 1) := by decide +kernel
theorem d_M_canMeet_60 : decode prog_10_method_41_code 60 = .ok (.ifCond .eq 51, 3) := by decide +kernel
theorem d_M_canMeet_63 : decode prog_10_method_41_code 63 = .ok (.iload 5, 2) := by decide +kernel
theorem d_M_canMeet_65 : decode prog_10_method_41_code 65 = .ok (.iconst 4, 1) := by decide +kernel
theorem d_M_canMeet_66 : decode prog_10_method_41_code 66 = .ok (.if_icmp .eq 45, 3) := by decide +kernel
theorem d_M_canMeet_69 : decode prog_10_method_41_code 69 = .ok (.aload_n 0, 1) := by decide +kernel
theorem d_M_canMeet_70 : decode prog_10_method_41_code 70 = .ok (.getfield 31, 3) := by decide +kernel
theorem d_M_canMeet_73 : decode prog_10_method_41_code 73 = .ok (.aload_n 0, 1) := by decide +kernel
theorem d_M_canMeet_74 : decode prog_10_method_41_code 74 = .ok (.iload 4, 2) := by decide +kernel
theorem d_M_canMeet_76 : decode prog_10_method_41_code 76 = .ok (.iconst 1, 1) := by decide +kernel
theorem d_M_canMeet_77 : decode prog_10_method_41_code 77 = .ok (.invokevirtual 54, 3) := by decide +kernel
theorem d_M_canMeet_80 : decode prog_10_method_41_code 80 = .ok (.iconst 1, 1) := by decide +kernel
theorem d_M_canMeet_81 : decode prog_10_method_41_code 81 = .ok (.bastore, 1) := by decide +kernel
theorem d_M_canMeet_82 : decode prog_10_method_41_code 82 = .ok (.aload_n 0, 1) := by decide +kernel
theorem d_M_canMeet_83 : decode prog_10_method_41_code 83 = .ok (.getfield 31, 3) := by decide +kernel
theorem d_M_canMeet_86 : decode prog_10_method_41_code 86 = .ok (.iload 5, 2) := by decide +kernel
theorem d_M_canMeet_88 : decode prog_10_method_41_code 88 = .ok (.iconst 3, 1) := by decide +kernel
theorem d_M_canMeet_89 : decode prog_10_method_41_code 89 = .ok (.if_icmp .ne 13, 3) := by decide +kernel
theorem d_M_canMeet_92 : decode prog_10_method_41_code 92 = .ok (.aload_n 0, 1) := by decide +kernel
theorem d_M_canMeet_93 : decode prog_10_method_41_code 93 = .ok (.iload 4, 2) := by decide +kernel
theorem d_M_canMeet_95 : decode prog_10_method_41_code 95 = .ok (.iconst 1, 1) := by decide +kernel
theorem d_M_canMeet_96 : decode prog_10_method_41_code 96 = .ok (.invokevirtual 54, 3) := by decide +kernel
theorem d_M_canMeet_99 : decode prog_10_method_41_code 99 = .ok (.goto 10, 3) := by decide +kernel
theorem d_M_canMeet_102 : decode prog_10_method_41_code 102 = .ok (.aload_n 0, 1) := by decide +kernel
theorem d_M_canMeet_103 : decode prog_10_method_41_code 103 = .ok (.iload 4, 2) := by decide +kernel
theorem d_M_canMeet_105 : decode prog_10_method_41_code 105 = .ok (.iconst 2, 1) := by decide +kernel
theorem d_M_canMeet_106 : decode prog_10_method_41_code 106 = .ok (.invokevirtual 54, 3) := by decide +kernel
theorem d_M_canMeet_109 : decode prog_10_method_41_code 109 = .ok (.iconst 1, 1) := by decide +kernel
theorem d_M_canMeet_110 : decode prog_10_method_41_code 110 = .ok (.bastore, 1) := by decide +kernel
theorem d_M_canMeet_111 : decode prog_10_method_41_code 111 = .ok (.iload_n 3, 1) := by decide +kernel
theorem d_M_canMeet_112 : decode prog_10_method_41_code 112 = .ok (.ifCond .eq 34, 3) := by decide +kernel
theorem d_M_canMeet_115 : decode prog_10_method_41_code 115 = .ok (.aload_n 0, 1) := by decide +kernel
theorem d_M_canMeet_116 : decode prog_10_method_41_code 116 = .ok (.getfield 31, 3) := by decide +kernel
theorem d_M_canMeet_119 : decode prog_10_method_41_code 119 = .ok (.iload 4, 2) := by decide +kernel
theorem d_M_canMeet_121 : decode prog_10_method_41_code 121 = .ok (.baload, 1) := by decide +kernel
theorem d_M_canMeet_122 : decode prog_10_method_41_code 122 = .ok (.ifCond .eq 20, 3) := by decide +kernel
theorem d_M_canMeet_125 : decode prog_10_method_41_code 125 = .ok (.iload 5, 2) := by decide +kernel
theorem d_M_canMeet_127 : decode prog_10_method_41_code 127 = .ok (.iconst 4, 1) := by decide +kernel
theorem d_M_canMeet_128 : decode prog_10_method_41_code 128 = .ok (.if_icmp .ne 14, 3) := by decide +kernel
theorem d_M_canMeet_131 : decode prog_10_method_41_code 131 = .ok (.iload_n 2, 1) := by decide +kernel
theorem d_M_canMeet_132 : decode prog_10_method_41_code 132 = .ok (.aload_n 0, 1) := by decide +kernel
theorem d_M_canMeet_133 : decode prog_10_method_41_code 133 = .ok (.iload 4, 2) := by decide +kernel
theorem d_M_canMeet_135 : decode prog_10_method_41_code 135 = .ok (.iconst 1, 1) := by decide +kernel
theorem d_M_canMeet_136 : decode prog_10_method_41_code 136 = .ok (.invokevirtual 54, 3) := by decide +kernel
theorem d_M_canMeet_139 : decode prog_10_method_41_code 139 = .ok (.if_icmp .lt 7, 3) := by decide +kernel
theorem d_M_canMeet_142 : decode prog_10_method_41_code 142 = .ok (.iconst 1, 1) := by decide +kernel
theorem d_M_canMeet_143 : decode prog_10_method_41_code 143 = .ok (.goto 4, 3) := by decide +kernel
theorem d_M_canMeet_146 : decode prog_10_method_41_code 146 = .ok (.iconst 0, 1) := by decide +kernel
theorem d_M_canMeet_147 : decode prog_10_method_41_code 147 = .ok (.istore_n 3, 1) := by decide +kernel
theorem d_M_canMeet_148 : decode prog_10_method_41_code 148 = .ok (.iinc 4 (-1), 3) := by decide +kernel
theorem d_M_canMeet_151 : decode prog_10_method_41_code 151 = .ok (.goto (-112), 3) := by decide +kernel
theorem d_M_canMeet_154 : decode prog_10_method_41_code 154 = .ok (.iload_n 3, 1) := by decide +kernel
theorem d_M_canMeet_155 : decode prog_10_method_41_code 155 = .ok (.ireturn, 1) := by decide +kernel
def L_M_canMeet_5 (r0 : Nat) (y1 : Int32) (y2 : Int32) (y3 : Int32) (k : Mem → Option (Int32 × Mem)) : Nat → Int32 → Mem → Option (Int32 × Mem)
  | 0, _, _ => none
  | n + 1, x4, σ =>
    if (8 : Int32) ≤ x4 then
      k σ
    else
      if x4 = y1 then
        if ib x4 8 then
          lt (wr σ (r0 + 8) x4.toNatClampNeg ((1 : Int32) &&& 1)) fun σ1 =>
          L_M_canMeet_5 r0 y1 y2 y3 k n (x4 + 1) σ1
        else none
      else
        if ib x4 8 then
          lt (wr σ (r0 + 8) x4.toNatClampNeg ((0 : Int32) &&& 1)) fun σ2 =>
          L_M_canMeet_5 r0 y1 y2 y3 k n (x4 + 1) σ2
        else none
def L_M_canMeet_39 (r0 : Nat) (y2 : Int32) (k : Int32 → Mem → Option (Int32 × Mem)) : Nat → Int32 → Int32 → Mem → Option (Int32 × Mem)
  | 0, _, _, _ => none
  | n + 1, x3, x4, σ =>
    if x4 < 0 then
      k x3 σ
    else
      bd (f_M_sensor0 r0 x4 (0 : Int32) σ) fun r4 σ5 =>
      if ib x4 8 then
        if (σ5 (r0 + 8) x4.toNatClampNeg) = 0 then
          if x3 = 0 then
            L_M_canMeet_39 r0 y2 k n (0 : Int32) (x4 + (-1)) σ5
          else
            if ib x4 8 then
              if (σ5 (r0 + 8) x4.toNatClampNeg) = 0 then
                L_M_canMeet_39 r0 y2 k n (1 : Int32) (x4 + (-1)) σ5
              else
                if r4 = (4 : Int32) then
                  bd (f_M_sensor0 r0 x4 (1 : Int32) σ5) fun r6 σ7 =>
                  if y2 < r6 then L_M_canMeet_39 r0 y2 k n (0 : Int32) (x4 + (-1)) σ7 else L_M_canMeet_39 r0 y2 k n (1 : Int32) (x4 + (-1)) σ7
                else
                  L_M_canMeet_39 r0 y2 k n (1 : Int32) (x4 + (-1)) σ5
            else none
        else
          if r4 = (4 : Int32) then
            if x3 = 0 then
              L_M_canMeet_39 r0 y2 k n (0 : Int32) (x4 + (-1)) σ5
            else
              if ib x4 8 then
                if (σ5 (r0 + 8) x4.toNatClampNeg) = 0 then
                  L_M_canMeet_39 r0 y2 k n (1 : Int32) (x4 + (-1)) σ5
                else
                  if r4 = (4 : Int32) then
                    bd (f_M_sensor0 r0 x4 (1 : Int32) σ5) fun r8 σ9 =>
                    if y2 < r8 then L_M_canMeet_39 r0 y2 k n (0 : Int32) (x4 + (-1)) σ9 else L_M_canMeet_39 r0 y2 k n (1 : Int32) (x4 + (-1)) σ9
                  else
                    L_M_canMeet_39 r0 y2 k n (1 : Int32) (x4 + (-1)) σ5
              else none
          else
            bd (f_M_sensor0 r0 x4 (1 : Int32) σ5) fun r10 σ11 =>
            if ib r10 8 then
              lt (wr σ11 (r0 + 8) r10.toNatClampNeg ((1 : Int32) &&& 1)) fun σ12 =>
              if r4 = (3 : Int32) then
                bd (f_M_sensor0 r0 x4 (1 : Int32) σ12) fun r13 σ14 =>
                if ib r13 8 then
                  lt (wr σ14 (r0 + 8) r13.toNatClampNeg ((1 : Int32) &&& 1)) fun σ15 =>
                  if x3 = 0 then
                    L_M_canMeet_39 r0 y2 k n (0 : Int32) (x4 + (-1)) σ15
                  else
                    if ib x4 8 then
                      if (σ15 (r0 + 8) x4.toNatClampNeg) = 0 then
                        L_M_canMeet_39 r0 y2 k n (1 : Int32) (x4 + (-1)) σ15
                      else
                        if r4 = (4 : Int32) then
                          bd (f_M_sensor0 r0 x4 (1 : Int32) σ15) fun r16 σ17 =>
                          if y2 < r16 then L_M_canMeet_39 r0 y2 k n (0 : Int32) (x4 + (-1)) σ17 else L_M_canMeet_39 r0 y2 k n (1 : Int32) (x4 + (-1)) σ17
                        else
                          L_M_canMeet_39 r0 y2 k n (1 : Int32) (x4 + (-1)) σ15
                    else none
                else none
              else
                bd (f_M_sensor0 r0 x4 (2 : Int32) σ12) fun r18 σ19 =>
                if ib r18 8 then
                  lt (wr σ19 (r0 + 8) r18.toNatClampNeg ((1 : Int32) &&& 1)) fun σ20 =>
                  if x3 = 0 then
                    L_M_canMeet_39 r0 y2 k n (0 : Int32) (x4 + (-1)) σ20
                  else
                    if ib x4 8 then
                      if (σ20 (r0 + 8) x4.toNatClampNeg) = 0 then
                        L_M_canMeet_39 r0 y2 k n (1 : Int32) (x4 + (-1)) σ20
                      else
                        if r4 = (4 : Int32) then
                          bd (f_M_sensor0 r0 x4 (1 : Int32) σ20) fun r21 σ22 =>
                          if y2 < r21 then L_M_canMeet_39 r0 y2 k n (0 : Int32) (x4 + (-1)) σ22 else L_M_canMeet_39 r0 y2 k n (1 : Int32) (x4 + (-1)) σ22
                        else
                          L_M_canMeet_39 r0 y2 k n (1 : Int32) (x4 + (-1)) σ20
                    else none
                else none
            else none
      else none
def f_M_canMeet (q : Nat) (p1 : Int32) (p2 : Int32) (σ : Mem) : Option (Int32 × Mem) :=
  L_M_canMeet_5 q p1 p2 (1 : Int32) (fun σ3 =>
    L_M_canMeet_39 q p2 (fun z23 σ24 =>
      if z23 &&& 1 = z23 then some (z23, σ24) else none) FU (1 : Int32) p1 σ3) FU (0 : Int32) σ
set_option maxRecDepth 100000 in
set_option maxHeartbeats 4000000 in
theorem l_L_M_canMeet_5 {X : CX} {p : Program} {l : Launch} {e : Env} {s : State} {m : MethodId} {args : Array Value} {below : List Frame} {meth : Method} {c : Code} (F : FR p s m args c prog_10_method_41_code 6 "SensorHubModel" X) (hlk : meth.locks = false) (hr : meth.sig.returnType = some .boolean) (r0 : Nat) (y1 : Int32) (y2 : Int32) (y3 : Int32) (hr0 : ModelOK X r0) (k : Mem → Option (Int32 × Mem)) (hk : ∀  (σ : Mem), G X p l e (rmD 1) s m args below meth c 6 0 0 (QI X below args s vI) 36 [(0, .ref (xa X r0)), (1, .int y1), (2, .int y2), (3, .int y3)] [] σ (k σ)) : ∀ (n : Nat) (x4 : Int32) (σ : Mem), G X p l e (rmD 1) s m args below meth c 6 0 0 (QI X below args s vI) 5 [(0, .ref (xa X r0)), (1, .int y1), (2, .int y2), (3, .int y3), (4, .int x4)] [] σ (L_M_canMeet_5 r0 y1 y2 y3 k n x4 σ) := by
  intro n
  induction n with
  | zero => intros; exact g_no
  | succ n ih =>
    intro x4 σ
    unfold L_M_canMeet_5
    refine g_iload F d_M_canMeet_5 4 rfl ?_
    refine g_bipush F (v := 8) d_M_canMeet_7 (by decide) ?_
    refine g_icmp_ge F (tgt := 36) d_M_canMeet_9 (by decide) (fun h1 => ?_) (fun h2 => ?_)
    · exact g_sub [0, 1, 2, 3] rfl (hk  _)
    refine g_aload_n F d_M_canMeet_12 0 rfl ?_
    refine g_getR F fs_8_31 hr0.1 rfl d_M_canMeet_13 ?_
    refine g_iload F d_M_canMeet_16 4 rfl ?_
    refine g_iload F d_M_canMeet_18 4 rfl ?_
    refine g_iload_n F d_M_canMeet_20 1 rfl ?_
    refine g_icmp_ne F (tgt := 28) d_M_canMeet_21 (by decide) (fun h3 => ?_) (fun h4 => ?_)
    · refine g_iconst F (v := 1) d_M_canMeet_24 (by decide) ?_
      refine g_goto F (tgt := 29) d_M_canMeet_25 (by decide) ?_
      refine g_zast F hr0.2.2.2.2.2.2.2.2 d_M_canMeet_29 ?_
      refine g_ltM (fun σ1 _ => ?_)
      refine g_iinc F (v := 1) (ls' := [(4, .int (x4 + 1)), (0, .ref (xa X r0)), (1, .int y1), (2, .int y2), (3, .int y3)]) d_M_canMeet_30 4 rfl (by decide) (by decide) rfl ?_
      refine g_goto F (tgt := 5) d_M_canMeet_33 (by decide) ?_
      exact g_sub [1, 2, 3, 4, 0] rfl (ih _ _)
    refine g_iconst F (v := 0) d_M_canMeet_28 (by decide) ?_
    refine g_zast F hr0.2.2.2.2.2.2.2.2 d_M_canMeet_29 ?_
    refine g_ltM (fun σ2 _ => ?_)
    refine g_iinc F (v := 1) (ls' := [(4, .int (x4 + 1)), (0, .ref (xa X r0)), (1, .int y1), (2, .int y2), (3, .int y3)]) d_M_canMeet_30 4 rfl (by decide) (by decide) rfl ?_
    refine g_goto F (tgt := 5) d_M_canMeet_33 (by decide) ?_
    exact g_sub [1, 2, 3, 4, 0] rfl (ih _ _)
set_option maxRecDepth 100000 in
set_option maxHeartbeats 4000000 in
theorem l_L_M_canMeet_39 {X : CX} {p : Program} {l : Launch} {e : Env} {s : State} {m : MethodId} {args : Array Value} {below : List Frame} {meth : Method} {c : Code} (F : FR p s m args c prog_10_method_41_code 6 "SensorHubModel" X) (hlk : meth.locks = false) (hr : meth.sig.returnType = some .boolean) (r0 : Nat) (y2 : Int32) (hr0 : ModelOK X r0) (k : Int32 → Mem → Option (Int32 × Mem)) (hk : ∀ (x3 : Int32) (σ : Mem), G X p l e (rmD 1) s m args below meth c 6 0 0 (QI X below args s vI) 154 [(3, .int x3)] [] σ (k x3 σ)) : ∀ (n : Nat) (x3 : Int32) (x4 : Int32) (σ : Mem), G X p l e (rmD 1) s m args below meth c 6 0 0 (QI X below args s vI) 39 [(0, .ref (xa X r0)), (2, .int y2), (3, .int x3), (4, .int x4)] [] σ (L_M_canMeet_39 r0 y2 k n x3 x4 σ) := by
  intro n
  induction n with
  | zero => intros; exact g_no
  | succ n ih =>
    intro x3 x4 σ
    unfold L_M_canMeet_39
    refine g_iload F d_M_canMeet_39 3 rfl ?_
    refine g_if_lt F (tgt := 154) d_M_canMeet_41 (by decide) (fun h5 => ?_) (fun h6 => ?_)
    · exact g_sub [2] rfl (hk _ _)
    refine g_aload_n F d_M_canMeet_44 0 rfl ?_
    refine g_iload F d_M_canMeet_45 3 rfl ?_
    refine g_iconst F (v := 0) d_M_canMeet_47 (by decide) ?_
    refine g_callV F (dp := 0) (ci := 8) (As := [.int x4, .int (0 : Int32)]) (c_M_sensor0 l _ _ _ hr0 _) cv_8_54 hr0.1 rfl rfl rfl (Nat.le_of_ble_eq_true rfl) ⟨Nat.le_of_ble_eq_true rfl, Nat.le_of_ble_eq_true rfl⟩ ⟨Nat.zero_le _, Nat.zero_le _⟩ d_M_canMeet_48 (fun r4 σ5 h7 => ?_)
    refine g_istore F (ls' := [(5, .int r4), (0, .ref (xa X r0)), (2, .int y2), (3, .int x3), (4, .int x4)]) d_M_canMeet_51 (by decide) rfl ?_
    refine g_aload_n F d_M_canMeet_53 1 rfl ?_
    refine g_getR F fs_8_31 hr0.1 rfl d_M_canMeet_54 ?_
    refine g_iload F d_M_canMeet_57 4 rfl ?_
    refine g_zald F hr0.2.2.2.2.2.2.2.2 d_M_canMeet_59 ?_
    refine g_if_eq F (tgt := 111) d_M_canMeet_60 (by decide) (fun h8 => ?_) (fun h9 => ?_)
    · refine g_iload_n F d_M_canMeet_111 3 rfl ?_
      refine g_if_eq F (tgt := 146) d_M_canMeet_112 (by decide) (fun h10 => ?_) (fun h11 => ?_)
      · refine g_iconst F (v := 0) d_M_canMeet_146 (by decide) ?_
        refine g_istore_n F (ls' := [(3, .int (0 : Int32)), (5, .int r4), (0, .ref (xa X r0)), (2, .int y2), (4, .int x4)]) d_M_canMeet_147 (by decide) rfl ?_
        refine g_iinc F (v := (-1)) (ls' := [(4, .int (x4 + (-1))), (3, .int (0 : Int32)), (5, .int r4), (0, .ref (xa X r0)), (2, .int y2)]) d_M_canMeet_148 4 rfl (by decide) (by decide) rfl ?_
        refine g_goto F (tgt := 39) d_M_canMeet_151 (by decide) ?_
        exact g_sub [3, 4, 1, 0] rfl (ih _ _ _)
      refine g_aload_n F d_M_canMeet_115 1 rfl ?_
      refine g_getR F fs_8_31 hr0.1 rfl d_M_canMeet_116 ?_
      refine g_iload F d_M_canMeet_119 4 rfl ?_
      refine g_zald F hr0.2.2.2.2.2.2.2.2 d_M_canMeet_121 ?_
      refine g_if_eq F (tgt := 142) d_M_canMeet_122 (by decide) (fun h12 => ?_) (fun h13 => ?_)
      · refine g_iconst F (v := 1) d_M_canMeet_142 (by decide) ?_
        refine g_goto F (tgt := 147) d_M_canMeet_143 (by decide) ?_
        refine g_istore_n F (ls' := [(3, .int (1 : Int32)), (5, .int r4), (0, .ref (xa X r0)), (2, .int y2), (4, .int x4)]) d_M_canMeet_147 (by decide) rfl ?_
        refine g_iinc F (v := (-1)) (ls' := [(4, .int (x4 + (-1))), (3, .int (1 : Int32)), (5, .int r4), (0, .ref (xa X r0)), (2, .int y2)]) d_M_canMeet_148 4 rfl (by decide) (by decide) rfl ?_
        refine g_goto F (tgt := 39) d_M_canMeet_151 (by decide) ?_
        exact g_sub [3, 4, 1, 0] rfl (ih _ _ _)
      refine g_iload F d_M_canMeet_125 0 rfl ?_
      refine g_iconst F (v := 4) d_M_canMeet_127 (by decide) ?_
      refine g_icmp_ne F (tgt := 142) d_M_canMeet_128 (by decide) (fun h14 => ?_) (fun h15 => ?_)
      · refine g_iload_n F d_M_canMeet_131 2 rfl ?_
        refine g_aload_n F d_M_canMeet_132 1 rfl ?_
        refine g_iload F d_M_canMeet_133 4 rfl ?_
        refine g_iconst F (v := 1) d_M_canMeet_135 (by decide) ?_
        refine g_callV F (dp := 0) (ci := 8) (As := [.int x4, .int (1 : Int32)]) (c_M_sensor0 l _ _ _ hr0 _) cv_8_54 hr0.1 rfl rfl rfl (Nat.le_of_ble_eq_true rfl) ⟨Nat.le_of_ble_eq_true rfl, Nat.le_of_ble_eq_true rfl⟩ ⟨Nat.zero_le _, Nat.zero_le _⟩ d_M_canMeet_136 (fun r6 σ7 h16 => ?_)
        refine g_icmp_lt F (tgt := 146) d_M_canMeet_139 (by decide) (fun h17 => ?_) (fun h18 => ?_)
        · refine g_iconst F (v := 0) d_M_canMeet_146 (by decide) ?_
          refine g_istore_n F (ls' := [(3, .int (0 : Int32)), (5, .int r4), (0, .ref (xa X r0)), (2, .int y2), (4, .int x4)]) d_M_canMeet_147 (by decide) rfl ?_
          refine g_iinc F (v := (-1)) (ls' := [(4, .int (x4 + (-1))), (3, .int (0 : Int32)), (5, .int r4), (0, .ref (xa X r0)), (2, .int y2)]) d_M_canMeet_148 4 rfl (by decide) (by decide) rfl ?_
          refine g_goto F (tgt := 39) d_M_canMeet_151 (by decide) ?_
          exact g_sub [3, 4, 1, 0] rfl (ih _ _ _)
        refine g_iconst F (v := 1) d_M_canMeet_142 (by decide) ?_
        refine g_goto F (tgt := 147) d_M_canMeet_143 (by decide) ?_
        refine g_istore_n F (ls' := [(3, .int (1 : Int32)), (5, .int r4), (0, .ref (xa X r0)), (2, .int y2), (4, .int x4)]) d_M_canMeet_147 (by decide) rfl ?_
        refine g_iinc F (v := (-1)) (ls' := [(4, .int (x4 + (-1))), (3, .int (1 : Int32)), (5, .int r4), (0, .ref (xa X r0)), (2, .int y2)]) d_M_canMeet_148 4 rfl (by decide) (by decide) rfl ?_
        refine g_goto F (tgt := 39) d_M_canMeet_151 (by decide) ?_
        exact g_sub [3, 4, 1, 0] rfl (ih _ _ _)
      refine g_iconst F (v := 1) d_M_canMeet_142 (by decide) ?_
      refine g_goto F (tgt := 147) d_M_canMeet_143 (by decide) ?_
      refine g_istore_n F (ls' := [(3, .int (1 : Int32)), (5, .int r4), (0, .ref (xa X r0)), (2, .int y2), (4, .int x4)]) d_M_canMeet_147 (by decide) rfl ?_
      refine g_iinc F (v := (-1)) (ls' := [(4, .int (x4 + (-1))), (3, .int (1 : Int32)), (5, .int r4), (0, .ref (xa X r0)), (2, .int y2)]) d_M_canMeet_148 4 rfl (by decide) (by decide) rfl ?_
      refine g_goto F (tgt := 39) d_M_canMeet_151 (by decide) ?_
      exact g_sub [3, 4, 1, 0] rfl (ih _ _ _)
    refine g_iload F d_M_canMeet_63 0 rfl ?_
    refine g_iconst F (v := 4) d_M_canMeet_65 (by decide) ?_
    refine g_icmp_eq F (tgt := 111) d_M_canMeet_66 (by decide) (fun h19 => ?_) (fun h20 => ?_)
    · refine g_iload_n F d_M_canMeet_111 3 rfl ?_
      refine g_if_eq F (tgt := 146) d_M_canMeet_112 (by decide) (fun h21 => ?_) (fun h22 => ?_)
      · refine g_iconst F (v := 0) d_M_canMeet_146 (by decide) ?_
        refine g_istore_n F (ls' := [(3, .int (0 : Int32)), (5, .int r4), (0, .ref (xa X r0)), (2, .int y2), (4, .int x4)]) d_M_canMeet_147 (by decide) rfl ?_
        refine g_iinc F (v := (-1)) (ls' := [(4, .int (x4 + (-1))), (3, .int (0 : Int32)), (5, .int r4), (0, .ref (xa X r0)), (2, .int y2)]) d_M_canMeet_148 4 rfl (by decide) (by decide) rfl ?_
        refine g_goto F (tgt := 39) d_M_canMeet_151 (by decide) ?_
        exact g_sub [3, 4, 1, 0] rfl (ih _ _ _)
      refine g_aload_n F d_M_canMeet_115 1 rfl ?_
      refine g_getR F fs_8_31 hr0.1 rfl d_M_canMeet_116 ?_
      refine g_iload F d_M_canMeet_119 4 rfl ?_
      refine g_zald F hr0.2.2.2.2.2.2.2.2 d_M_canMeet_121 ?_
      refine g_if_eq F (tgt := 142) d_M_canMeet_122 (by decide) (fun h23 => ?_) (fun h24 => ?_)
      · refine g_iconst F (v := 1) d_M_canMeet_142 (by decide) ?_
        refine g_goto F (tgt := 147) d_M_canMeet_143 (by decide) ?_
        refine g_istore_n F (ls' := [(3, .int (1 : Int32)), (5, .int r4), (0, .ref (xa X r0)), (2, .int y2), (4, .int x4)]) d_M_canMeet_147 (by decide) rfl ?_
        refine g_iinc F (v := (-1)) (ls' := [(4, .int (x4 + (-1))), (3, .int (1 : Int32)), (5, .int r4), (0, .ref (xa X r0)), (2, .int y2)]) d_M_canMeet_148 4 rfl (by decide) (by decide) rfl ?_
        refine g_goto F (tgt := 39) d_M_canMeet_151 (by decide) ?_
        exact g_sub [3, 4, 1, 0] rfl (ih _ _ _)
      refine g_iload F d_M_canMeet_125 0 rfl ?_
      refine g_iconst F (v := 4) d_M_canMeet_127 (by decide) ?_
      refine g_icmp_ne F (tgt := 142) d_M_canMeet_128 (by decide) (fun h25 => ?_) (fun h26 => ?_)
      · refine g_iload_n F d_M_canMeet_131 2 rfl ?_
        refine g_aload_n F d_M_canMeet_132 1 rfl ?_
        refine g_iload F d_M_canMeet_133 4 rfl ?_
        refine g_iconst F (v := 1) d_M_canMeet_135 (by decide) ?_
        refine g_callV F (dp := 0) (ci := 8) (As := [.int x4, .int (1 : Int32)]) (c_M_sensor0 l _ _ _ hr0 _) cv_8_54 hr0.1 rfl rfl rfl (Nat.le_of_ble_eq_true rfl) ⟨Nat.le_of_ble_eq_true rfl, Nat.le_of_ble_eq_true rfl⟩ ⟨Nat.zero_le _, Nat.zero_le _⟩ d_M_canMeet_136 (fun r8 σ9 h27 => ?_)
        refine g_icmp_lt F (tgt := 146) d_M_canMeet_139 (by decide) (fun h28 => ?_) (fun h29 => ?_)
        · refine g_iconst F (v := 0) d_M_canMeet_146 (by decide) ?_
          refine g_istore_n F (ls' := [(3, .int (0 : Int32)), (5, .int r4), (0, .ref (xa X r0)), (2, .int y2), (4, .int x4)]) d_M_canMeet_147 (by decide) rfl ?_
          refine g_iinc F (v := (-1)) (ls' := [(4, .int (x4 + (-1))), (3, .int (0 : Int32)), (5, .int r4), (0, .ref (xa X r0)), (2, .int y2)]) d_M_canMeet_148 4 rfl (by decide) (by decide) rfl ?_
          refine g_goto F (tgt := 39) d_M_canMeet_151 (by decide) ?_
          exact g_sub [3, 4, 1, 0] rfl (ih _ _ _)
        refine g_iconst F (v := 1) d_M_canMeet_142 (by decide) ?_
        refine g_goto F (tgt := 147) d_M_canMeet_143 (by decide) ?_
        refine g_istore_n F (ls' := [(3, .int (1 : Int32)), (5, .int r4), (0, .ref (xa X r0)), (2, .int y2), (4, .int x4)]) d_M_canMeet_147 (by decide) rfl ?_
        refine g_iinc F (v := (-1)) (ls' := [(4, .int (x4 + (-1))), (3, .int (1 : Int32)), (5, .int r4), (0, .ref (xa X r0)), (2, .int y2)]) d_M_canMeet_148 4 rfl (by decide) (by decide) rfl ?_
        refine g_goto F (tgt := 39) d_M_canMeet_151 (by decide) ?_
        exact g_sub [3, 4, 1, 0] rfl (ih _ _ _)
      refine g_iconst F (v := 1) d_M_canMeet_142 (by decide) ?_
      refine g_goto F (tgt := 147) d_M_canMeet_143 (by decide) ?_
      refine g_istore_n F (ls' := [(3, .int (1 : Int32)), (5, .int r4), (0, .ref (xa X r0)), (2, .int y2), (4, .int x4)]) d_M_canMeet_147 (by decide) rfl ?_
      refine g_iinc F (v := (-1)) (ls' := [(4, .int (x4 + (-1))), (3, .int (1 : Int32)), (5, .int r4), (0, .ref (xa X r0)), (2, .int y2)]) d_M_canMeet_148 4 rfl (by decide) (by decide) rfl ?_
      refine g_goto F (tgt := 39) d_M_canMeet_151 (by decide) ?_
      exact g_sub [3, 4, 1, 0] rfl (ih _ _ _)
    refine g_aload_n F d_M_canMeet_69 1 rfl ?_
    refine g_getR F fs_8_31 hr0.1 rfl d_M_canMeet_70 ?_
    refine g_aload_n F d_M_canMeet_73 1 rfl ?_
    refine g_iload F d_M_canMeet_74 4 rfl ?_
    refine g_iconst F (v := 1) d_M_canMeet_76 (by decide) ?_
    refine g_callV F (dp := 0) (ci := 8) (As := [.int x4, .int (1 : Int32)]) (c_M_sensor0 l _ _ _ hr0 _) cv_8_54 hr0.1 rfl rfl rfl (Nat.le_of_ble_eq_true rfl) ⟨Nat.le_of_ble_eq_true rfl, Nat.le_of_ble_eq_true rfl⟩ ⟨Nat.zero_le _, Nat.zero_le _⟩ d_M_canMeet_77 (fun r10 σ11 h30 => ?_)
    refine g_iconst F (v := 1) d_M_canMeet_80 (by decide) ?_
    refine g_zast F hr0.2.2.2.2.2.2.2.2 d_M_canMeet_81 ?_
    refine g_ltM (fun σ12 _ => ?_)
    refine g_aload_n F d_M_canMeet_82 1 rfl ?_
    refine g_getR F fs_8_31 hr0.1 rfl d_M_canMeet_83 ?_
    refine g_iload F d_M_canMeet_86 0 rfl ?_
    refine g_iconst F (v := 3) d_M_canMeet_88 (by decide) ?_
    refine g_icmp_ne F (tgt := 102) d_M_canMeet_89 (by decide) (fun h31 => ?_) (fun h32 => ?_)
    · refine g_aload_n F d_M_canMeet_92 1 rfl ?_
      refine g_iload F d_M_canMeet_93 4 rfl ?_
      refine g_iconst F (v := 1) d_M_canMeet_95 (by decide) ?_
      refine g_callV F (dp := 0) (ci := 8) (As := [.int x4, .int (1 : Int32)]) (c_M_sensor0 l _ _ _ hr0 _) cv_8_54 hr0.1 rfl rfl rfl (Nat.le_of_ble_eq_true rfl) ⟨Nat.le_of_ble_eq_true rfl, Nat.le_of_ble_eq_true rfl⟩ ⟨Nat.zero_le _, Nat.zero_le _⟩ d_M_canMeet_96 (fun r13 σ14 h33 => ?_)
      refine g_goto F (tgt := 109) d_M_canMeet_99 (by decide) ?_
      refine g_iconst F (v := 1) d_M_canMeet_109 (by decide) ?_
      refine g_zast F hr0.2.2.2.2.2.2.2.2 d_M_canMeet_110 ?_
      refine g_ltM (fun σ15 _ => ?_)
      refine g_iload_n F d_M_canMeet_111 3 rfl ?_
      refine g_if_eq F (tgt := 146) d_M_canMeet_112 (by decide) (fun h34 => ?_) (fun h35 => ?_)
      · refine g_iconst F (v := 0) d_M_canMeet_146 (by decide) ?_
        refine g_istore_n F (ls' := [(3, .int (0 : Int32)), (5, .int r4), (0, .ref (xa X r0)), (2, .int y2), (4, .int x4)]) d_M_canMeet_147 (by decide) rfl ?_
        refine g_iinc F (v := (-1)) (ls' := [(4, .int (x4 + (-1))), (3, .int (0 : Int32)), (5, .int r4), (0, .ref (xa X r0)), (2, .int y2)]) d_M_canMeet_148 4 rfl (by decide) (by decide) rfl ?_
        refine g_goto F (tgt := 39) d_M_canMeet_151 (by decide) ?_
        exact g_sub [3, 4, 1, 0] rfl (ih _ _ _)
      refine g_aload_n F d_M_canMeet_115 1 rfl ?_
      refine g_getR F fs_8_31 hr0.1 rfl d_M_canMeet_116 ?_
      refine g_iload F d_M_canMeet_119 4 rfl ?_
      refine g_zald F hr0.2.2.2.2.2.2.2.2 d_M_canMeet_121 ?_
      refine g_if_eq F (tgt := 142) d_M_canMeet_122 (by decide) (fun h36 => ?_) (fun h37 => ?_)
      · refine g_iconst F (v := 1) d_M_canMeet_142 (by decide) ?_
        refine g_goto F (tgt := 147) d_M_canMeet_143 (by decide) ?_
        refine g_istore_n F (ls' := [(3, .int (1 : Int32)), (5, .int r4), (0, .ref (xa X r0)), (2, .int y2), (4, .int x4)]) d_M_canMeet_147 (by decide) rfl ?_
        refine g_iinc F (v := (-1)) (ls' := [(4, .int (x4 + (-1))), (3, .int (1 : Int32)), (5, .int r4), (0, .ref (xa X r0)), (2, .int y2)]) d_M_canMeet_148 4 rfl (by decide) (by decide) rfl ?_
        refine g_goto F (tgt := 39) d_M_canMeet_151 (by decide) ?_
        exact g_sub [3, 4, 1, 0] rfl (ih _ _ _)
      refine g_iload F d_M_canMeet_125 0 rfl ?_
      refine g_iconst F (v := 4) d_M_canMeet_127 (by decide) ?_
      refine g_icmp_ne F (tgt := 142) d_M_canMeet_128 (by decide) (fun h38 => ?_) (fun h39 => ?_)
      · refine g_iload_n F d_M_canMeet_131 2 rfl ?_
        refine g_aload_n F d_M_canMeet_132 1 rfl ?_
        refine g_iload F d_M_canMeet_133 4 rfl ?_
        refine g_iconst F (v := 1) d_M_canMeet_135 (by decide) ?_
        refine g_callV F (dp := 0) (ci := 8) (As := [.int x4, .int (1 : Int32)]) (c_M_sensor0 l _ _ _ hr0 _) cv_8_54 hr0.1 rfl rfl rfl (Nat.le_of_ble_eq_true rfl) ⟨Nat.le_of_ble_eq_true rfl, Nat.le_of_ble_eq_true rfl⟩ ⟨Nat.zero_le _, Nat.zero_le _⟩ d_M_canMeet_136 (fun r16 σ17 h40 => ?_)
        refine g_icmp_lt F (tgt := 146) d_M_canMeet_139 (by decide) (fun h41 => ?_) (fun h42 => ?_)
        · refine g_iconst F (v := 0) d_M_canMeet_146 (by decide) ?_
          refine g_istore_n F (ls' := [(3, .int (0 : Int32)), (5, .int r4), (0, .ref (xa X r0)), (2, .int y2), (4, .int x4)]) d_M_canMeet_147 (by decide) rfl ?_
          refine g_iinc F (v := (-1)) (ls' := [(4, .int (x4 + (-1))), (3, .int (0 : Int32)), (5, .int r4), (0, .ref (xa X r0)), (2, .int y2)]) d_M_canMeet_148 4 rfl (by decide) (by decide) rfl ?_
          refine g_goto F (tgt := 39) d_M_canMeet_151 (by decide) ?_
          exact g_sub [3, 4, 1, 0] rfl (ih _ _ _)
        refine g_iconst F (v := 1) d_M_canMeet_142 (by decide) ?_
        refine g_goto F (tgt := 147) d_M_canMeet_143 (by decide) ?_
        refine g_istore_n F (ls' := [(3, .int (1 : Int32)), (5, .int r4), (0, .ref (xa X r0)), (2, .int y2), (4, .int x4)]) d_M_canMeet_147 (by decide) rfl ?_
        refine g_iinc F (v := (-1)) (ls' := [(4, .int (x4 + (-1))), (3, .int (1 : Int32)), (5, .int r4), (0, .ref (xa X r0)), (2, .int y2)]) d_M_canMeet_148 4 rfl (by decide) (by decide) rfl ?_
        refine g_goto F (tgt := 39) d_M_canMeet_151 (by decide) ?_
        exact g_sub [3, 4, 1, 0] rfl (ih _ _ _)
      refine g_iconst F (v := 1) d_M_canMeet_142 (by decide) ?_
      refine g_goto F (tgt := 147) d_M_canMeet_143 (by decide) ?_
      refine g_istore_n F (ls' := [(3, .int (1 : Int32)), (5, .int r4), (0, .ref (xa X r0)), (2, .int y2), (4, .int x4)]) d_M_canMeet_147 (by decide) rfl ?_
      refine g_iinc F (v := (-1)) (ls' := [(4, .int (x4 + (-1))), (3, .int (1 : Int32)), (5, .int r4), (0, .ref (xa X r0)), (2, .int y2)]) d_M_canMeet_148 4 rfl (by decide) (by decide) rfl ?_
      refine g_goto F (tgt := 39) d_M_canMeet_151 (by decide) ?_
      exact g_sub [3, 4, 1, 0] rfl (ih _ _ _)
    refine g_aload_n F d_M_canMeet_102 1 rfl ?_
    refine g_iload F d_M_canMeet_103 4 rfl ?_
    refine g_iconst F (v := 2) d_M_canMeet_105 (by decide) ?_
    refine g_callV F (dp := 0) (ci := 8) (As := [.int x4, .int (2 : Int32)]) (c_M_sensor0 l _ _ _ hr0 _) cv_8_54 hr0.1 rfl rfl rfl (Nat.le_of_ble_eq_true rfl) ⟨Nat.le_of_ble_eq_true rfl, Nat.le_of_ble_eq_true rfl⟩ ⟨Nat.zero_le _, Nat.zero_le _⟩ d_M_canMeet_106 (fun r18 σ19 h43 => ?_)
    refine g_iconst F (v := 1) d_M_canMeet_109 (by decide) ?_
    refine g_zast F hr0.2.2.2.2.2.2.2.2 d_M_canMeet_110 ?_
    refine g_ltM (fun σ20 _ => ?_)
    refine g_iload_n F d_M_canMeet_111 3 rfl ?_
    refine g_if_eq F (tgt := 146) d_M_canMeet_112 (by decide) (fun h44 => ?_) (fun h45 => ?_)
    · refine g_iconst F (v := 0) d_M_canMeet_146 (by decide) ?_
      refine g_istore_n F (ls' := [(3, .int (0 : Int32)), (5, .int r4), (0, .ref (xa X r0)), (2, .int y2), (4, .int x4)]) d_M_canMeet_147 (by decide) rfl ?_
      refine g_iinc F (v := (-1)) (ls' := [(4, .int (x4 + (-1))), (3, .int (0 : Int32)), (5, .int r4), (0, .ref (xa X r0)), (2, .int y2)]) d_M_canMeet_148 4 rfl (by decide) (by decide) rfl ?_
      refine g_goto F (tgt := 39) d_M_canMeet_151 (by decide) ?_
      exact g_sub [3, 4, 1, 0] rfl (ih _ _ _)
    refine g_aload_n F d_M_canMeet_115 1 rfl ?_
    refine g_getR F fs_8_31 hr0.1 rfl d_M_canMeet_116 ?_
    refine g_iload F d_M_canMeet_119 4 rfl ?_
    refine g_zald F hr0.2.2.2.2.2.2.2.2 d_M_canMeet_121 ?_
    refine g_if_eq F (tgt := 142) d_M_canMeet_122 (by decide) (fun h46 => ?_) (fun h47 => ?_)
    · refine g_iconst F (v := 1) d_M_canMeet_142 (by decide) ?_
      refine g_goto F (tgt := 147) d_M_canMeet_143 (by decide) ?_
      refine g_istore_n F (ls' := [(3, .int (1 : Int32)), (5, .int r4), (0, .ref (xa X r0)), (2, .int y2), (4, .int x4)]) d_M_canMeet_147 (by decide) rfl ?_
      refine g_iinc F (v := (-1)) (ls' := [(4, .int (x4 + (-1))), (3, .int (1 : Int32)), (5, .int r4), (0, .ref (xa X r0)), (2, .int y2)]) d_M_canMeet_148 4 rfl (by decide) (by decide) rfl ?_
      refine g_goto F (tgt := 39) d_M_canMeet_151 (by decide) ?_
      exact g_sub [3, 4, 1, 0] rfl (ih _ _ _)
    refine g_iload F d_M_canMeet_125 0 rfl ?_
    refine g_iconst F (v := 4) d_M_canMeet_127 (by decide) ?_
    refine g_icmp_ne F (tgt := 142) d_M_canMeet_128 (by decide) (fun h48 => ?_) (fun h49 => ?_)
    · refine g_iload_n F d_M_canMeet_131 2 rfl ?_
      refine g_aload_n F d_M_canMeet_132 1 rfl ?_
      refine g_iload F d_M_canMeet_133 4 rfl ?_
      refine g_iconst F (v := 1) d_M_canMeet_135 (by decide) ?_
      refine g_callV F (dp := 0) (ci := 8) (As := [.int x4, .int (1 : Int32)]) (c_M_sensor0 l _ _ _ hr0 _) cv_8_54 hr0.1 rfl rfl rfl (Nat.le_of_ble_eq_true rfl) ⟨Nat.le_of_ble_eq_true rfl, Nat.le_of_ble_eq_true rfl⟩ ⟨Nat.zero_le _, Nat.zero_le _⟩ d_M_canMeet_136 (fun r21 σ22 h50 => ?_)
      refine g_icmp_lt F (tgt := 146) d_M_canMeet_139 (by decide) (fun h51 => ?_) (fun h52 => ?_)
      · refine g_iconst F (v := 0) d_M_canMeet_146 (by decide) ?_
        refine g_istore_n F (ls' := [(3, .int (0 : Int32)), (5, .int r4), (0, .ref (xa X r0)), (2, .int y2), (4, .int x4)]) d_M_canMeet_147 (by decide) rfl ?_
        refine g_iinc F (v := (-1)) (ls' := [(4, .int (x4 + (-1))), (3, .int (0 : Int32)), (5, .int r4), (0, .ref (xa X r0)), (2, .int y2)]) d_M_canMeet_148 4 rfl (by decide) (by decide) rfl ?_
        refine g_goto F (tgt := 39) d_M_canMeet_151 (by decide) ?_
        exact g_sub [3, 4, 1, 0] rfl (ih _ _ _)
      refine g_iconst F (v := 1) d_M_canMeet_142 (by decide) ?_
      refine g_goto F (tgt := 147) d_M_canMeet_143 (by decide) ?_
      refine g_istore_n F (ls' := [(3, .int (1 : Int32)), (5, .int r4), (0, .ref (xa X r0)), (2, .int y2), (4, .int x4)]) d_M_canMeet_147 (by decide) rfl ?_
      refine g_iinc F (v := (-1)) (ls' := [(4, .int (x4 + (-1))), (3, .int (1 : Int32)), (5, .int r4), (0, .ref (xa X r0)), (2, .int y2)]) d_M_canMeet_148 4 rfl (by decide) (by decide) rfl ?_
      refine g_goto F (tgt := 39) d_M_canMeet_151 (by decide) ?_
      exact g_sub [3, 4, 1, 0] rfl (ih _ _ _)
    refine g_iconst F (v := 1) d_M_canMeet_142 (by decide) ?_
    refine g_goto F (tgt := 147) d_M_canMeet_143 (by decide) ?_
    refine g_istore_n F (ls' := [(3, .int (1 : Int32)), (5, .int r4), (0, .ref (xa X r0)), (2, .int y2), (4, .int x4)]) d_M_canMeet_147 (by decide) rfl ?_
    refine g_iinc F (v := (-1)) (ls' := [(4, .int (x4 + (-1))), (3, .int (1 : Int32)), (5, .int r4), (0, .ref (xa X r0)), (2, .int y2)]) d_M_canMeet_148 4 rfl (by decide) (by decide) rfl ?_
    refine g_goto F (tgt := 39) d_M_canMeet_151 (by decide) ?_
    exact g_sub [3, 4, 1, 0] rfl (ih _ _ _)
set_option maxRecDepth 100000 in
set_option maxHeartbeats 4000000 in
theorem c_M_canMeet {X : CX} (l : Launch) (q : Nat) (p1 : Int32) (p2 : Int32) (hq : ModelOK X q) (σ : Mem) : CT X l y_M_canMeet prog_10_method_41_code 6 (some .boolean) 1 vI [.ref (xa X q), .int p1, .int p2] σ (f_M_canMeet q p1 p2 σ) := by
  refine CT_of (by decide +kernel) (Nat.le_of_ble_eq_true rfl) ?_
  intro p e s m args below meth c F hlk hr
  have F : FR p s m args c prog_10_method_41_code 6 "SensorHubModel" X := F
  show G X p l e (rmD 1) s m args below meth c 6 0 0 (QI X below args s vI) 0 [(0, .ref (xa X q)), (1, .int p1), (2, .int p2)] [] σ _
  unfold f_M_canMeet
  refine g_iconst F (v := 1) d_M_canMeet_0 (by decide) ?_
  refine g_istore_n F (ls' := [(3, .int (1 : Int32)), (0, .ref (xa X q)), (1, .int p1), (2, .int p2)]) d_M_canMeet_1 (by decide) rfl ?_
  refine g_iconst F (v := 0) d_M_canMeet_2 (by decide) ?_
  refine g_istore F (ls' := [(4, .int (0 : Int32)), (3, .int (1 : Int32)), (0, .ref (xa X q)), (1, .int p1), (2, .int p2)]) d_M_canMeet_3 (by decide) rfl ?_
  refine g_sub [2, 3, 4, 1, 0] rfl (l_L_M_canMeet_5 F hlk hr _ _ _ _ hq _ (fun σ3 => ?_) FU _ _)
  refine g_iload_n F d_M_canMeet_36 1 rfl ?_
  refine g_istore F (ls' := [(4, .int p1), (0, .ref (xa X q)), (1, .int p1), (2, .int p2), (3, .int (1 : Int32))]) d_M_canMeet_37 (by decide) rfl ?_
  refine g_sub [1, 3, 4, 0] rfl (l_L_M_canMeet_39 F hlk hr _ _ hq _ (fun z23 σ24 => ?_) FU _ _ _)
  refine g_iload_n F d_M_canMeet_154 0 rfl ?_
  exact g_zret F hlk hr d_M_canMeet_155
def y_M_subscribe : MethodName := ⟨"SensorHubModel", "subscribe", "(III)I"⟩
theorem d_M_subscribe_0 : decode prog_10_method_42_code 0 = .ok (.aload_n 0, 1) := by decide +kernel
theorem d_M_subscribe_1 : decode prog_10_method_42_code 1 = .ok (.iconst 0, 1) := by decide +kernel
theorem d_M_subscribe_2 : decode prog_10_method_42_code 2 = .ok (.putfield 35, 3) := by decide +kernel
theorem d_M_subscribe_5 : decode prog_10_method_42_code 5 = .ok (.aload_n 0, 1) := by decide +kernel
theorem d_M_subscribe_6 : decode prog_10_method_42_code 6 = .ok (.iload_n 1, 1) := by decide +kernel
theorem d_M_subscribe_7 : decode prog_10_method_42_code 7 = .ok (.invokevirtual 50, 3) := by decide +kernel
theorem d_M_subscribe_10 : decode prog_10_method_42_code 10 = .ok (.ifCond .eq 25, 3) := by decide +kernel
theorem d_M_subscribe_13 : decode prog_10_method_42_code 13 = .ok (.iload_n 2, 1) := by decide +kernel
theorem d_M_subscribe_14 : decode prog_10_method_42_code 14 = .ok (.iconst 1, 1) := by decide +kernel
theorem d_M_subscribe_15 : decode prog_10_method_42_code 15 = .ok (.sipush 400, 3) := by decide +kernel
theorem d_M_subscribe_18 : decode prog_10_method_42_code 18 = .ok (.invokestatic 42, 3) := by decide +kernel
theorem d_M_subscribe_21 : decode prog_10_method_42_code 21 = .ok (.ifCond .eq 14, 3) := by decide +kernel
theorem d_M_subscribe_24 : decode prog_10_method_42_code 24 = .ok (.iload_n 3, 1) := by decide +kernel
theorem d_M_subscribe_25 : decode prog_10_method_42_code 25 = .ok (.iconst 0, 1) := by decide +kernel
theorem d_M_subscribe_26 : decode prog_10_method_42_code 26 = .ok (.sipush 400, 3) := by decide +kernel
theorem d_M_subscribe_29 : decode prog_10_method_42_code 29 = .ok (.invokestatic 42, 3) := by decide +kernel
theorem d_M_subscribe_32 : decode prog_10_method_42_code 32 = .ok (.ifCond .ne 5, 3) := by decide +kernel
theorem d_M_subscribe_35 : decode prog_10_method_42_code 35 = .ok (.iconst (-1), 1) := by decide +kernel
theorem d_M_subscribe_36 : decode prog_10_method_42_code 36 = .ok (.ireturn, 1) := by decide +kernel
theorem d_M_subscribe_37 : decode prog_10_method_42_code 37 = .ok (.aload_n 0, 1) := by decide +kernel
theorem d_M_subscribe_38 : decode prog_10_method_42_code 38 = .ok (.iload_n 1, 1) := by decide +kernel
theorem d_M_subscribe_39 : decode prog_10_method_42_code 39 = .ok (.iload_n 2, 1) := by decide +kernel
theorem d_M_subscribe_40 : decode prog_10_method_42_code 40 = .ok (.invokevirtual 131, 3) := by decide +kernel
theorem d_M_subscribe_43 : decode prog_10_method_42_code 43 = .ok (.ifCond .ne 6, 3) := by decide +kernel
theorem d_M_subscribe_46 : decode prog_10_method_42_code 46 = .ok (.bipush (-2), 2) := by decide +kernel
theorem d_M_subscribe_48 : decode prog_10_method_42_code 48 = .ok (.ireturn, 1) := by decide +kernel
theorem d_M_subscribe_49 : decode prog_10_method_42_code 49 = .ok (.aload_n 0, 1) := by decide +kernel
theorem d_M_subscribe_50 : decode prog_10_method_42_code 50 = .ok (.invokevirtual 134, 3) := by decide +kernel
theorem d_M_subscribe_53 : decode prog_10_method_42_code 53 = .ok (.istore 4, 2) := by decide +kernel
theorem d_M_subscribe_55 : decode prog_10_method_42_code 55 = .ok (.iload 4, 2) := by decide +kernel
theorem d_M_subscribe_57 : decode prog_10_method_42_code 57 = .ok (.bipush (-9), 2) := by decide +kernel
theorem d_M_subscribe_59 : decode prog_10_method_42_code 59 = .ok (.if_icmp .ne 6, 3) := by decide +kernel
theorem d_M_subscribe_62 : decode prog_10_method_42_code 62 = .ok (.bipush (-3), 2) := by decide +kernel
theorem d_M_subscribe_64 : decode prog_10_method_42_code 64 = .ok (.ireturn, 1) := by decide +kernel
theorem d_M_subscribe_65 : decode prog_10_method_42_code 65 = .ok (.aload_n 0, 1) := by decide +kernel
theorem d_M_subscribe_66 : decode prog_10_method_42_code 66 = .ok (.invokevirtual 117, 3) := by decide +kernel
theorem d_M_subscribe_69 : decode prog_10_method_42_code 69 = .ok (.aload_n 0, 1) := by decide +kernel
theorem d_M_subscribe_70 : decode prog_10_method_42_code 70 = .ok (.iconst 2, 1) := by decide +kernel
theorem d_M_subscribe_71 : decode prog_10_method_42_code 71 = .ok (.invokevirtual 98, 3) := by decide +kernel
theorem d_M_subscribe_74 : decode prog_10_method_42_code 74 = .ok (.pop, 1) := by decide +kernel
theorem d_M_subscribe_75 : decode prog_10_method_42_code 75 = .ok (.aload_n 0, 1) := by decide +kernel
theorem d_M_subscribe_76 : decode prog_10_method_42_code 76 = .ok (.invokevirtual 138, 3) := by decide +kernel
theorem d_M_subscribe_79 : decode prog_10_method_42_code 79 = .ok (.sipush 163, 3) := by decide +kernel
theorem d_M_subscribe_82 : decode prog_10_method_42_code 82 = .ok (.bipush 27, 2) := by decide +kernel
theorem d_M_subscribe_84 : decode prog_10_method_42_code 84 = .ok (.iload 4, 2) := by decide +kernel
theorem d_M_subscribe_86 : decode prog_10_method_42_code 86 = .ok (.imul, 1) := by decide +kernel
theorem d_M_subscribe_87 : decode prog_10_method_42_code 87 = .ok (.iadd, 1) := by decide +kernel
theorem d_M_subscribe_88 : decode prog_10_method_42_code 88 = .ok (.istore 5, 2) := by decide +kernel
theorem d_M_subscribe_90 : decode prog_10_method_42_code 90 = .ok (.iconst 0, 1) := by decide +kernel
theorem d_M_subscribe_91 : decode prog_10_method_42_code 91 = .ok (.istore 6, 2) := by decide +kernel
theorem d_M_subscribe_93 : decode prog_10_method_42_code 93 = .ok (.iload 6, 2) := by decide +kernel
theorem d_M_subscribe_95 : decode prog_10_method_42_code 95 = .ok (.bipush 27, 2) := by decide +kernel
theorem d_M_subscribe_97 : decode prog_10_method_42_code 97 = .ok (.if_icmp .ge 20, 3) := by decide +kernel
theorem d_M_subscribe_100 : decode prog_10_method_42_code 100 = .ok (.aload_n 0, 1) := by decide +kernel
theorem d_M_subscribe_101 : decode prog_10_method_42_code 101 = .ok (.getfield 7, 3) := by decide +kernel
theorem d_M_subscribe_104 : decode prog_10_method_42_code 104 = .ok (.iload 5, 2) := by decide +kernel
theorem d_M_subscribe_106 : decode prog_10_method_42_code 106 = .ok (.iload 6, 2) := by decide +kernel
theorem d_M_subscribe_108 : decode prog_10_method_42_code 108 = .ok (.iadd, 1) := by decide +kernel
theorem d_M_subscribe_109 : decode prog_10_method_42_code 109 = .ok (.iconst 0, 1) := by decide +kernel
theorem d_M_subscribe_110 : decode prog_10_method_42_code 110 = .ok (.iastore, 1) := by decide +kernel
theorem d_M_subscribe_111 : decode prog_10_method_42_code 111 = .ok (.iinc 6 1, 3) := by decide +kernel
theorem d_M_subscribe_114 : decode prog_10_method_42_code 114 = .ok (.goto (-21), 3) := by decide +kernel
theorem d_M_subscribe_117 : decode prog_10_method_42_code 117 = .ok (.aload_n 0, 1) := by decide +kernel
theorem d_M_subscribe_118 : decode prog_10_method_42_code 118 = .ok (.getfield 7, 3) := by decide +kernel
theorem d_M_subscribe_121 : decode prog_10_method_42_code 121 = .ok (.iload 5, 2) := by decide +kernel
theorem d_M_subscribe_123 : decode prog_10_method_42_code 123 = .ok (.iconst 0, 1) := by decide +kernel
theorem d_M_subscribe_124 : decode prog_10_method_42_code 124 = .ok (.iadd, 1) := by decide +kernel
theorem d_M_subscribe_125 : decode prog_10_method_42_code 125 = .ok (.iconst 1, 1) := by decide +kernel
theorem d_M_subscribe_126 : decode prog_10_method_42_code 126 = .ok (.iastore, 1) := by decide +kernel
theorem d_M_subscribe_127 : decode prog_10_method_42_code 127 = .ok (.aload_n 0, 1) := by decide +kernel
theorem d_M_subscribe_128 : decode prog_10_method_42_code 128 = .ok (.getfield 7, 3) := by decide +kernel
theorem d_M_subscribe_131 : decode prog_10_method_42_code 131 = .ok (.iload 5, 2) := by decide +kernel
theorem d_M_subscribe_133 : decode prog_10_method_42_code 133 = .ok (.iconst 1, 1) := by decide +kernel
theorem d_M_subscribe_134 : decode prog_10_method_42_code 134 = .ok (.iadd, 1) := by decide +kernel
theorem d_M_subscribe_135 : decode prog_10_method_42_code 135 = .ok (.iload_n 1, 1) := by decide +kernel
theorem d_M_subscribe_136 : decode prog_10_method_42_code 136 = .ok (.iastore, 1) := by decide +kernel
theorem d_M_subscribe_137 : decode prog_10_method_42_code 137 = .ok (.aload_n 0, 1) := by decide +kernel
theorem d_M_subscribe_138 : decode prog_10_method_42_code 138 = .ok (.getfield 7, 3) := by decide +kernel
theorem d_M_subscribe_141 : decode prog_10_method_42_code 141 = .ok (.iload 5, 2) := by decide +kernel
theorem d_M_subscribe_143 : decode prog_10_method_42_code 143 = .ok (.iconst 2, 1) := by decide +kernel
theorem d_M_subscribe_144 : decode prog_10_method_42_code 144 = .ok (.iadd, 1) := by decide +kernel
theorem d_M_subscribe_145 : decode prog_10_method_42_code 145 = .ok (.iload_n 2, 1) := by decide +kernel
theorem d_M_subscribe_146 : decode prog_10_method_42_code 146 = .ok (.iastore, 1) := by decide +kernel
theorem d_M_subscribe_147 : decode prog_10_method_42_code 147 = .ok (.aload_n 0, 1) := by decide +kernel
theorem d_M_subscribe_148 : decode prog_10_method_42_code 148 = .ok (.getfield 7, 3) := by decide +kernel
theorem d_M_subscribe_151 : decode prog_10_method_42_code 151 = .ok (.iload 5, 2) := by decide +kernel
theorem d_M_subscribe_153 : decode prog_10_method_42_code 153 = .ok (.iconst 3, 1) := by decide +kernel
theorem d_M_subscribe_154 : decode prog_10_method_42_code 154 = .ok (.iadd, 1) := by decide +kernel
theorem d_M_subscribe_155 : decode prog_10_method_42_code 155 = .ok (.iload_n 3, 1) := by decide +kernel
theorem d_M_subscribe_156 : decode prog_10_method_42_code 156 = .ok (.iastore, 1) := by decide +kernel
theorem d_M_subscribe_157 : decode prog_10_method_42_code 157 = .ok (.aload_n 0, 1) := by decide +kernel
theorem d_M_subscribe_158 : decode prog_10_method_42_code 158 = .ok (.invokevirtual 141, 3) := by decide +kernel
theorem d_M_subscribe_161 : decode prog_10_method_42_code 161 = .ok (.iload 4, 2) := by decide +kernel
theorem d_M_subscribe_163 : decode prog_10_method_42_code 163 = .ok (.ireturn, 1) := by decide +kernel
theorem cv_8_131 : CSV "SensorHubModel" 131 y_M_canMeet prog_10_method_41_code 6 (some .boolean) 2 := ⟨gw_I 989 (by decide +kernel) rfl, gw_I 991 (by decide +kernel) rfl, gw_I 33 (by decide +kernel) rfl, gw_I 78 (by decide +kernel) rfl, gw_I 992 (by decide +kernel) rfl, ⟨by decide +kernel, by decide +kernel⟩, by decide +kernel⟩
theorem cv_8_134 : CSV "SensorHubModel" 134 y_M_freeClient prog_10_method_40_code 2 (some .int) 0 := ⟨gw_I 993 (by decide +kernel) rfl, gw_I 995 (by decide +kernel) rfl, gw_I 34 (by decide +kernel) rfl, gw_I 78 (by decide +kernel) rfl, gw_I 996 (by decide +kernel) rfl, ⟨by decide +kernel, by decide +kernel⟩, by decide +kernel⟩
theorem cv_8_138 : CSV "SensorHubModel" 138 y_M_keepPeriods prog_10_method_18_code 2 none 0 := ⟨gw_I 1013 (by decide +kernel) rfl, gw_I 1015 (by decide +kernel) rfl, gw_I 39 (by decide +kernel) rfl, gw_I 78 (by decide +kernel) rfl, gw_I 1016 (by decide +kernel) rfl, ⟨by decide +kernel, by decide +kernel⟩, by decide +kernel⟩
theorem cv_8_141 : CSV "SensorHubModel" 141 y_M_restartIfChanged prog_10_method_19_code 4 none 0 := ⟨gw_I 1036 (by decide +kernel) rfl, gw_I 1038 (by decide +kernel) rfl, gw_I 44 (by decide +kernel) rfl, gw_I 78 (by decide +kernel) rfl, gw_I 1039 (by decide +kernel) rfl, ⟨by decide +kernel, by decide +kernel⟩, by decide +kernel⟩
def L_M_subscribe_93 (r0 : Nat) (y1 : Int32) (y2 : Int32) (y3 : Int32) (y4 : Int32) (y5 : Int32) (k : Mem → Option (Int32 × Mem)) : Nat → Int32 → Mem → Option (Int32 × Mem)
  | 0, _, _ => none
  | n + 1, x6, σ =>
    if (27 : Int32) ≤ x6 then
      k σ
    else
      if ib (y5 + x6) 481 then
        lt (wr σ (r0 + 1) (y5 + x6).toNatClampNeg (0 : Int32)) fun σ19 =>
        L_M_subscribe_93 r0 y1 y2 y3 y4 y5 k n (x6 + 1) σ19
      else none
def f_M_subscribe (q : Nat) (p1 : Int32) (p2 : Int32) (p3 : Int32) (σ : Mem) : Option (Int32 × Mem) :=
  lt (wr σ q 0 (0 : Int32)) fun σ1 =>
  bd (f_M_isSensor q p1 σ1) fun r2 σ3 =>
  if r2 = 0 then
    some ((-1 : Int32), σ3)
  else
    bd (f_M_in p2 (1 : Int32) (400 : Int32) σ3) fun r4 σ5 =>
    if r4 = 0 then
      some ((-1 : Int32), σ5)
    else
      bd (f_M_in p3 (0 : Int32) (400 : Int32) σ5) fun r6 σ7 =>
      if r6 = 0 then
        some ((-1 : Int32), σ7)
      else
        bd (f_M_canMeet q p1 p2 σ7) fun r8 σ9 =>
        if r8 = 0 then
          some ((-2 : Int32), σ9)
        else
          bd (f_M_freeClient q σ9) fun r10 σ11 =>
          if r10 = (-9 : Int32) then
            some ((-3 : Int32), σ11)
          else
            bd (f_M_keep q σ11) fun _ σ13 =>
            bd (f_M_wake q (2 : Int32) σ13) fun r14 σ15 =>
            bd (f_M_keepPeriods q σ15) fun _ σ17 =>
            lt ((163 : Int32) + ((27 : Int32) * r10)) fun v18 =>
            L_M_subscribe_93 q p1 p2 p3 r10 v18 (fun σ20 =>
              if ib (v18 + (0 : Int32)) 481 then
                lt (wr σ20 (q + 1) (v18 + (0 : Int32)).toNatClampNeg (1 : Int32)) fun σ21 =>
                if ib (v18 + (1 : Int32)) 481 then
                  lt (wr σ21 (q + 1) (v18 + (1 : Int32)).toNatClampNeg p1) fun σ22 =>
                  if ib (v18 + (2 : Int32)) 481 then
                    lt (wr σ22 (q + 1) (v18 + (2 : Int32)).toNatClampNeg p2) fun σ23 =>
                    if ib (v18 + (3 : Int32)) 481 then
                      lt (wr σ23 (q + 1) (v18 + (3 : Int32)).toNatClampNeg p3) fun σ24 =>
                      bd (f_M_restartIfChanged q σ24) fun _ σ26 =>
                      some (r10, σ26)
                    else none
                  else none
                else none
              else none) FU (0 : Int32) σ17
set_option maxRecDepth 100000 in
set_option maxHeartbeats 4000000 in
theorem l_L_M_subscribe_93 {X : CX} {p : Program} {l : Launch} {e : Env} {s : State} {m : MethodId} {args : Array Value} {below : List Frame} {meth : Method} {c : Code} (F : FR p s m args c prog_10_method_42_code 7 "SensorHubModel" X) (hlk : meth.locks = false) (hr : meth.sig.returnType = some .int) (r0 : Nat) (y1 : Int32) (y2 : Int32) (y3 : Int32) (y4 : Int32) (y5 : Int32) (hr0 : ModelOK X r0) (k : Mem → Option (Int32 × Mem)) (hk : ∀  (σ : Mem), G X p l e (rmD 4) s m args below meth c 7 0 0 (QI X below args s vI) 117 [(0, .ref (xa X r0)), (1, .int y1), (2, .int y2), (3, .int y3), (4, .int y4), (5, .int y5)] [] σ (k σ)) : ∀ (n : Nat) (x6 : Int32) (σ : Mem), G X p l e (rmD 4) s m args below meth c 7 0 0 (QI X below args s vI) 93 [(0, .ref (xa X r0)), (1, .int y1), (2, .int y2), (3, .int y3), (4, .int y4), (5, .int y5), (6, .int x6)] [] σ (L_M_subscribe_93 r0 y1 y2 y3 y4 y5 k n x6 σ) := by
  intro n
  induction n with
  | zero => intros; exact g_no
  | succ n ih =>
    intro x6 σ
    unfold L_M_subscribe_93
    refine g_iload F d_M_subscribe_93 6 rfl ?_
    refine g_bipush F (v := 27) d_M_subscribe_95 (by decide) ?_
    refine g_icmp_ge F (tgt := 117) d_M_subscribe_97 (by decide) (fun h19 => ?_) (fun h20 => ?_)
    · exact g_sub [0, 1, 2, 3, 4, 5] rfl (hk  _)
    refine g_aload_n F d_M_subscribe_100 0 rfl ?_
    refine g_getR F fs_8_7 hr0.1 rfl d_M_subscribe_101 ?_
    refine g_iload F d_M_subscribe_104 5 rfl ?_
    refine g_iload F d_M_subscribe_106 6 rfl ?_
    refine g_iadd F d_M_subscribe_108 ?_
    refine g_iconst F (v := 0) d_M_subscribe_109 (by decide) ?_
    refine g_iast F (n := 481) hr0.2.1 d_M_subscribe_110 ?_
    refine g_ltM (fun σ19 _ => ?_)
    refine g_iinc F (v := 1) (ls' := [(6, .int (x6 + 1)), (0, .ref (xa X r0)), (1, .int y1), (2, .int y2), (3, .int y3), (4, .int y4), (5, .int y5)]) d_M_subscribe_111 6 rfl (by decide) (by decide) rfl ?_
    refine g_goto F (tgt := 93) d_M_subscribe_114 (by decide) ?_
    exact g_sub [1, 2, 3, 4, 5, 6, 0] rfl (ih _ _)
set_option maxRecDepth 100000 in
set_option maxHeartbeats 4000000 in
theorem c_M_subscribe {X : CX} (l : Launch) (q : Nat) (p1 : Int32) (p2 : Int32) (p3 : Int32) (hq : ModelOK X q) (σ : Mem) : CT X l y_M_subscribe prog_10_method_42_code 7 (some .int) 4 vI [.ref (xa X q), .int p1, .int p2, .int p3] σ (f_M_subscribe q p1 p2 p3 σ) := by
  refine CT_of (by decide +kernel) (Nat.le_of_ble_eq_true rfl) ?_
  intro p e s m args below meth c F hlk hr
  have F : FR p s m args c prog_10_method_42_code 7 "SensorHubModel" X := F
  show G X p l e (rmD 4) s m args below meth c 7 0 0 (QI X below args s vI) 0 [(0, .ref (xa X q)), (1, .int p1), (2, .int p2), (3, .int p3)] [] σ _
  unfold f_M_subscribe
  refine g_aload_n F d_M_subscribe_0 0 rfl ?_
  refine g_iconst F (v := 0) d_M_subscribe_1 (by decide) ?_
  refine g_putI F fw_8_35 hq.1 rfl d_M_subscribe_2 ?_
  refine g_ltM (fun σ1 _ => ?_)
  refine g_aload_n F d_M_subscribe_5 0 rfl ?_
  refine g_iload_n F d_M_subscribe_6 1 rfl ?_
  refine g_callV F (dp := 1) (ci := 8) (As := [.int p1]) (c_M_isSensor l _ _ hq _) cv_8_50 hq.1 rfl rfl rfl (Nat.le_of_ble_eq_true rfl) ⟨Nat.le_of_ble_eq_true rfl, Nat.le_of_ble_eq_true rfl⟩ ⟨Nat.zero_le _, Nat.zero_le _⟩ d_M_subscribe_7 (fun r2 σ3 h1 => ?_)
  refine g_if_eq F (tgt := 35) d_M_subscribe_10 (by decide) (fun h2 => ?_) (fun h3 => ?_)
  · refine g_iconst F (v := (-1)) d_M_subscribe_35 (by decide) ?_
    exact g_iret F hlk hr d_M_subscribe_36
  refine g_iload_n F d_M_subscribe_13 2 rfl ?_
  refine g_iconst F (v := 1) d_M_subscribe_14 (by decide) ?_
  refine g_sipush F (v := 400) d_M_subscribe_15 (by decide) ?_
  refine g_callS F (dp := 0) (As := [.int p2, .int (1 : Int32), .int (400 : Int32)]) (c_M_in l _ _ _ _) cs_8_42 rfl rfl (Nat.le_of_ble_eq_true rfl) ⟨Nat.le_of_ble_eq_true rfl, Nat.le_of_ble_eq_true rfl⟩ ⟨Nat.zero_le _, Nat.zero_le _⟩ d_M_subscribe_18 (fun r4 σ5 h4 => ?_)
  refine g_if_eq F (tgt := 35) d_M_subscribe_21 (by decide) (fun h5 => ?_) (fun h6 => ?_)
  · refine g_iconst F (v := (-1)) d_M_subscribe_35 (by decide) ?_
    exact g_iret F hlk hr d_M_subscribe_36
  refine g_iload_n F d_M_subscribe_24 3 rfl ?_
  refine g_iconst F (v := 0) d_M_subscribe_25 (by decide) ?_
  refine g_sipush F (v := 400) d_M_subscribe_26 (by decide) ?_
  refine g_callS F (dp := 0) (As := [.int p3, .int (0 : Int32), .int (400 : Int32)]) (c_M_in l _ _ _ _) cs_8_42 rfl rfl (Nat.le_of_ble_eq_true rfl) ⟨Nat.le_of_ble_eq_true rfl, Nat.le_of_ble_eq_true rfl⟩ ⟨Nat.zero_le _, Nat.zero_le _⟩ d_M_subscribe_29 (fun r6 σ7 h7 => ?_)
  refine g_if_ne F (tgt := 37) d_M_subscribe_32 (by decide) (fun h8 => ?_) (fun h9 => ?_)
  · refine g_iconst F (v := (-1)) d_M_subscribe_35 (by decide) ?_
    exact g_iret F hlk hr d_M_subscribe_36
  refine g_aload_n F d_M_subscribe_37 0 rfl ?_
  refine g_iload_n F d_M_subscribe_38 1 rfl ?_
  refine g_iload_n F d_M_subscribe_39 2 rfl ?_
  refine g_callV F (dp := 1) (ci := 8) (As := [.int p1, .int p2]) (c_M_canMeet l _ _ _ hq _) cv_8_131 hq.1 rfl rfl rfl (Nat.le_of_ble_eq_true rfl) ⟨Nat.le_of_ble_eq_true rfl, Nat.le_of_ble_eq_true rfl⟩ ⟨Nat.zero_le _, Nat.zero_le _⟩ d_M_subscribe_40 (fun r8 σ9 h10 => ?_)
  refine g_if_ne F (tgt := 49) d_M_subscribe_43 (by decide) (fun h11 => ?_) (fun h12 => ?_)
  · refine g_bipush F (v := (-2)) d_M_subscribe_46 (by decide) ?_
    exact g_iret F hlk hr d_M_subscribe_48
  refine g_aload_n F d_M_subscribe_49 0 rfl ?_
  refine g_callV F (dp := 1) (ci := 8) (As := []) (c_M_freeClient l _ hq _) cv_8_134 hq.1 rfl rfl rfl (Nat.le_of_ble_eq_true rfl) ⟨Nat.le_of_ble_eq_true rfl, Nat.le_of_ble_eq_true rfl⟩ ⟨Nat.zero_le _, Nat.zero_le _⟩ d_M_subscribe_50 (fun r10 σ11 h13 => ?_)
  refine g_istore F (ls' := [(4, .int r10), (0, .ref (xa X q)), (1, .int p1), (2, .int p2), (3, .int p3)]) d_M_subscribe_53 (by decide) rfl ?_
  refine g_iload F d_M_subscribe_55 0 rfl ?_
  refine g_bipush F (v := (-9)) d_M_subscribe_57 (by decide) ?_
  refine g_icmp_ne F (tgt := 65) d_M_subscribe_59 (by decide) (fun h14 => ?_) (fun h15 => ?_)
  · refine g_bipush F (v := (-3)) d_M_subscribe_62 (by decide) ?_
    exact g_iret F hlk hr d_M_subscribe_64
  refine g_aload_n F d_M_subscribe_65 1 rfl ?_
  refine g_callV F (dp := 0) (ci := 8) (As := []) (c_M_keep l _ hq _) cv_8_117 hq.1 rfl rfl rfl (Nat.le_of_ble_eq_true rfl) ⟨Nat.le_of_ble_eq_true rfl, Nat.le_of_ble_eq_true rfl⟩ ⟨Nat.zero_le _, Nat.zero_le _⟩ d_M_subscribe_66 (fun _ σ13 h16 => ?_)
  refine g_aload_n F d_M_subscribe_69 1 rfl ?_
  refine g_iconst F (v := 2) d_M_subscribe_70 (by decide) ?_
  refine g_callV F (dp := 2) (ci := 8) (As := [.int (2 : Int32)]) (c_M_wake l _ _ hq _) cv_8_98 hq.1 rfl rfl rfl (Nat.le_of_ble_eq_true rfl) ⟨Nat.le_of_ble_eq_true rfl, Nat.le_of_ble_eq_true rfl⟩ ⟨Nat.zero_le _, Nat.zero_le _⟩ d_M_subscribe_71 (fun r14 σ15 h17 => ?_)
  refine g_pop F d_M_subscribe_74 rfl ?_
  refine g_aload_n F d_M_subscribe_75 1 rfl ?_
  refine g_callV F (dp := 3) (ci := 8) (As := []) (c_M_keepPeriods l _ hq _) cv_8_138 hq.1 rfl rfl rfl (Nat.le_of_ble_eq_true rfl) ⟨Nat.le_of_ble_eq_true rfl, Nat.le_of_ble_eq_true rfl⟩ ⟨Nat.zero_le _, Nat.zero_le _⟩ d_M_subscribe_76 (fun _ σ17 h18 => ?_)
  refine g_sipush F (v := 163) d_M_subscribe_79 (by decide) ?_
  refine g_bipush F (v := 27) d_M_subscribe_82 (by decide) ?_
  refine g_iload F d_M_subscribe_84 0 rfl ?_
  refine g_imul F d_M_subscribe_86 ?_
  refine g_iadd F d_M_subscribe_87 ?_
  refine g_ltI (fun v18 _ => ?_)
  refine g_istore F (ls' := [(5, .int v18), (4, .int r10), (0, .ref (xa X q)), (1, .int p1), (2, .int p2), (3, .int p3)]) d_M_subscribe_88 (by decide) rfl ?_
  refine g_iconst F (v := 0) d_M_subscribe_90 (by decide) ?_
  refine g_istore F (ls' := [(6, .int (0 : Int32)), (5, .int v18), (4, .int r10), (0, .ref (xa X q)), (1, .int p1), (2, .int p2), (3, .int p3)]) d_M_subscribe_91 (by decide) rfl ?_
  refine g_sub [3, 4, 5, 6, 2, 1, 0] rfl (l_L_M_subscribe_93 F hlk hr _ _ _ _ _ _ hq _ (fun σ20 => ?_) FU _ _)
  refine g_aload_n F d_M_subscribe_117 0 rfl ?_
  refine g_getR F fs_8_7 hq.1 rfl d_M_subscribe_118 ?_
  refine g_iload F d_M_subscribe_121 5 rfl ?_
  refine g_iconst F (v := 0) d_M_subscribe_123 (by decide) ?_
  refine g_iadd F d_M_subscribe_124 ?_
  refine g_iconst F (v := 1) d_M_subscribe_125 (by decide) ?_
  refine g_iast F (n := 481) hq.2.1 d_M_subscribe_126 ?_
  refine g_ltM (fun σ21 _ => ?_)
  refine g_aload_n F d_M_subscribe_127 0 rfl ?_
  refine g_getR F fs_8_7 hq.1 rfl d_M_subscribe_128 ?_
  refine g_iload F d_M_subscribe_131 5 rfl ?_
  refine g_iconst F (v := 1) d_M_subscribe_133 (by decide) ?_
  refine g_iadd F d_M_subscribe_134 ?_
  refine g_iload_n F d_M_subscribe_135 1 rfl ?_
  refine g_iast F (n := 481) hq.2.1 d_M_subscribe_136 ?_
  refine g_ltM (fun σ22 _ => ?_)
  refine g_aload_n F d_M_subscribe_137 0 rfl ?_
  refine g_getR F fs_8_7 hq.1 rfl d_M_subscribe_138 ?_
  refine g_iload F d_M_subscribe_141 5 rfl ?_
  refine g_iconst F (v := 2) d_M_subscribe_143 (by decide) ?_
  refine g_iadd F d_M_subscribe_144 ?_
  refine g_iload_n F d_M_subscribe_145 2 rfl ?_
  refine g_iast F (n := 481) hq.2.1 d_M_subscribe_146 ?_
  refine g_ltM (fun σ23 _ => ?_)
  refine g_aload_n F d_M_subscribe_147 0 rfl ?_
  refine g_getR F fs_8_7 hq.1 rfl d_M_subscribe_148 ?_
  refine g_iload F d_M_subscribe_151 5 rfl ?_
  refine g_iconst F (v := 3) d_M_subscribe_153 (by decide) ?_
  refine g_iadd F d_M_subscribe_154 ?_
  refine g_iload_n F d_M_subscribe_155 3 rfl ?_
  refine g_iast F (n := 481) hq.2.1 d_M_subscribe_156 ?_
  refine g_ltM (fun σ24 _ => ?_)
  refine g_aload_n F d_M_subscribe_157 0 rfl ?_
  refine g_callV F (dp := 3) (ci := 8) (As := []) (c_M_restartIfChanged l _ hq _) cv_8_141 hq.1 rfl rfl rfl (Nat.le_of_ble_eq_true rfl) ⟨Nat.le_of_ble_eq_true rfl, Nat.le_of_ble_eq_true rfl⟩ ⟨Nat.zero_le _, Nat.zero_le _⟩ d_M_subscribe_158 (fun _ σ26 h21 => ?_)
  refine g_iload F d_M_subscribe_161 4 rfl ?_
  exact g_iret F hlk hr d_M_subscribe_163
def y_M_unsubscribe : MethodName := ⟨"SensorHubModel", "unsubscribe", "(I)I"⟩
theorem d_M_unsubscribe_0 : decode prog_10_method_43_code 0 = .ok (.aload_n 0, 1) := by decide +kernel
theorem d_M_unsubscribe_1 : decode prog_10_method_43_code 1 = .ok (.iconst 0, 1) := by decide +kernel
theorem d_M_unsubscribe_2 : decode prog_10_method_43_code 2 = .ok (.putfield 35, 3) := by decide +kernel
theorem d_M_unsubscribe_5 : decode prog_10_method_43_code 5 = .ok (.aload_n 0, 1) := by decide +kernel
theorem d_M_unsubscribe_6 : decode prog_10_method_43_code 6 = .ok (.iload_n 1, 1) := by decide +kernel
theorem d_M_unsubscribe_7 : decode prog_10_method_43_code 7 = .ok (.invokevirtual 144, 3) := by decide +kernel
theorem d_M_unsubscribe_10 : decode prog_10_method_43_code 10 = .ok (.ifCond .ne 5, 3) := by decide +kernel
theorem d_M_unsubscribe_13 : decode prog_10_method_43_code 13 = .ok (.iconst (-1), 1) := by decide +kernel
theorem d_M_unsubscribe_14 : decode prog_10_method_43_code 14 = .ok (.ireturn, 1) := by decide +kernel
theorem d_M_unsubscribe_15 : decode prog_10_method_43_code 15 = .ok (.aload_n 0, 1) := by decide +kernel
theorem d_M_unsubscribe_16 : decode prog_10_method_43_code 16 = .ok (.invokevirtual 117, 3) := by decide +kernel
theorem d_M_unsubscribe_19 : decode prog_10_method_43_code 19 = .ok (.aload_n 0, 1) := by decide +kernel
theorem d_M_unsubscribe_20 : decode prog_10_method_43_code 20 = .ok (.iconst 2, 1) := by decide +kernel
theorem d_M_unsubscribe_21 : decode prog_10_method_43_code 21 = .ok (.invokevirtual 98, 3) := by decide +kernel
theorem d_M_unsubscribe_24 : decode prog_10_method_43_code 24 = .ok (.pop, 1) := by decide +kernel
theorem d_M_unsubscribe_25 : decode prog_10_method_43_code 25 = .ok (.aload_n 0, 1) := by decide +kernel
theorem d_M_unsubscribe_26 : decode prog_10_method_43_code 26 = .ok (.invokevirtual 138, 3) := by decide +kernel
theorem d_M_unsubscribe_29 : decode prog_10_method_43_code 29 = .ok (.aload_n 0, 1) := by decide +kernel
theorem d_M_unsubscribe_30 : decode prog_10_method_43_code 30 = .ok (.iload_n 1, 1) := by decide +kernel
theorem d_M_unsubscribe_31 : decode prog_10_method_43_code 31 = .ok (.iconst 5, 1) := by decide +kernel
theorem d_M_unsubscribe_32 : decode prog_10_method_43_code 32 = .ok (.invokevirtual 46, 3) := by decide +kernel
theorem d_M_unsubscribe_35 : decode prog_10_method_43_code 35 = .ok (.istore_n 2, 1) := by decide +kernel
theorem d_M_unsubscribe_36 : decode prog_10_method_43_code 36 = .ok (.aload_n 0, 1) := by decide +kernel
theorem d_M_unsubscribe_37 : decode prog_10_method_43_code 37 = .ok (.getfield 7, 3) := by decide +kernel
theorem d_M_unsubscribe_40 : decode prog_10_method_43_code 40 = .ok (.sipush 163, 3) := by decide +kernel
theorem d_M_unsubscribe_43 : decode prog_10_method_43_code 43 = .ok (.bipush 27, 2) := by decide +kernel
theorem d_M_unsubscribe_45 : decode prog_10_method_43_code 45 = .ok (.iload_n 1, 1) := by decide +kernel
theorem d_M_unsubscribe_46 : decode prog_10_method_43_code 46 = .ok (.imul, 1) := by decide +kernel
theorem d_M_unsubscribe_47 : decode prog_10_method_43_code 47 = .ok (.iadd, 1) := by decide +kernel
theorem d_M_unsubscribe_48 : decode prog_10_method_43_code 48 = .ok (.iconst 0, 1) := by decide +kernel
theorem d_M_unsubscribe_49 : decode prog_10_method_43_code 49 = .ok (.iadd, 1) := by decide +kernel
theorem d_M_unsubscribe_50 : decode prog_10_method_43_code 50 = .ok (.iconst 0, 1) := by decide +kernel
theorem d_M_unsubscribe_51 : decode prog_10_method_43_code 51 = .ok (.iastore, 1) := by decide +kernel
theorem d_M_unsubscribe_52 : decode prog_10_method_43_code 52 = .ok (.aload_n 0, 1) := by decide +kernel
theorem d_M_unsubscribe_53 : decode prog_10_method_43_code 53 = .ok (.invokevirtual 141, 3) := by decide +kernel
theorem d_M_unsubscribe_56 : decode prog_10_method_43_code 56 = .ok (.iload_n 2, 1) := by decide +kernel
theorem d_M_unsubscribe_57 : decode prog_10_method_43_code 57 = .ok (.ireturn, 1) := by decide +kernel
theorem cv_8_144 : CSV "SensorHubModel" 144 y_M_isClient prog_10_method_6_code 2 (some .boolean) 1 := ⟨gw_I 1044 (by decide +kernel) rfl, gw_I 1046 (by decide +kernel) rfl, gw_I 45 (by decide +kernel) rfl, gw_I 78 (by decide +kernel) rfl, gw_I 1047 (by decide +kernel) rfl, ⟨by decide +kernel, by decide +kernel⟩, by decide +kernel⟩
def f_M_unsubscribe (q : Nat) (p1 : Int32) (σ : Mem) : Option (Int32 × Mem) :=
  lt (wr σ q 0 (0 : Int32)) fun σ1 =>
  bd (f_M_isClient q p1 σ1) fun r2 σ3 =>
  if r2 = 0 then
    some ((-1 : Int32), σ3)
  else
    bd (f_M_keep q σ3) fun _ σ5 =>
    bd (f_M_wake q (2 : Int32) σ5) fun r6 σ7 =>
    bd (f_M_keepPeriods q σ7) fun _ σ9 =>
    bd (f_M_client0 q p1 (5 : Int32) σ9) fun r10 σ11 =>
    if ib (((163 : Int32) + ((27 : Int32) * p1)) + (0 : Int32)) 481 then
      lt (wr σ11 (q + 1) (((163 : Int32) + ((27 : Int32) * p1)) + (0 : Int32)).toNatClampNeg (0 : Int32)) fun σ12 =>
      bd (f_M_restartIfChanged q σ12) fun _ σ14 =>
      some (r10, σ14)
    else none
set_option maxRecDepth 100000 in
set_option maxHeartbeats 4000000 in
theorem c_M_unsubscribe {X : CX} (l : Launch) (q : Nat) (p1 : Int32) (hq : ModelOK X q) (σ : Mem) : CT X l y_M_unsubscribe prog_10_method_43_code 3 (some .int) 4 vI [.ref (xa X q), .int p1] σ (f_M_unsubscribe q p1 σ) := by
  refine CT_of (by decide +kernel) (Nat.le_of_ble_eq_true rfl) ?_
  intro p e s m args below meth c F hlk hr
  have F : FR p s m args c prog_10_method_43_code 3 "SensorHubModel" X := F
  show G X p l e (rmD 4) s m args below meth c 3 0 0 (QI X below args s vI) 0 [(0, .ref (xa X q)), (1, .int p1)] [] σ _
  unfold f_M_unsubscribe
  refine g_aload_n F d_M_unsubscribe_0 0 rfl ?_
  refine g_iconst F (v := 0) d_M_unsubscribe_1 (by decide) ?_
  refine g_putI F fw_8_35 hq.1 rfl d_M_unsubscribe_2 ?_
  refine g_ltM (fun σ1 _ => ?_)
  refine g_aload_n F d_M_unsubscribe_5 0 rfl ?_
  refine g_iload_n F d_M_unsubscribe_6 1 rfl ?_
  refine g_callV F (dp := 1) (ci := 8) (As := [.int p1]) (c_M_isClient l _ _ hq _) cv_8_144 hq.1 rfl rfl rfl (Nat.le_of_ble_eq_true rfl) ⟨Nat.le_of_ble_eq_true rfl, Nat.le_of_ble_eq_true rfl⟩ ⟨Nat.zero_le _, Nat.zero_le _⟩ d_M_unsubscribe_7 (fun r2 σ3 h1 => ?_)
  refine g_if_ne F (tgt := 15) d_M_unsubscribe_10 (by decide) (fun h2 => ?_) (fun h3 => ?_)
  · refine g_iconst F (v := (-1)) d_M_unsubscribe_13 (by decide) ?_
    exact g_iret F hlk hr d_M_unsubscribe_14
  refine g_aload_n F d_M_unsubscribe_15 0 rfl ?_
  refine g_callV F (dp := 0) (ci := 8) (As := []) (c_M_keep l _ hq _) cv_8_117 hq.1 rfl rfl rfl (Nat.le_of_ble_eq_true rfl) ⟨Nat.le_of_ble_eq_true rfl, Nat.le_of_ble_eq_true rfl⟩ ⟨Nat.zero_le _, Nat.zero_le _⟩ d_M_unsubscribe_16 (fun _ σ5 h4 => ?_)
  refine g_aload_n F d_M_unsubscribe_19 0 rfl ?_
  refine g_iconst F (v := 2) d_M_unsubscribe_20 (by decide) ?_
  refine g_callV F (dp := 2) (ci := 8) (As := [.int (2 : Int32)]) (c_M_wake l _ _ hq _) cv_8_98 hq.1 rfl rfl rfl (Nat.le_of_ble_eq_true rfl) ⟨Nat.le_of_ble_eq_true rfl, Nat.le_of_ble_eq_true rfl⟩ ⟨Nat.zero_le _, Nat.zero_le _⟩ d_M_unsubscribe_21 (fun r6 σ7 h5 => ?_)
  refine g_pop F d_M_unsubscribe_24 rfl ?_
  refine g_aload_n F d_M_unsubscribe_25 0 rfl ?_
  refine g_callV F (dp := 3) (ci := 8) (As := []) (c_M_keepPeriods l _ hq _) cv_8_138 hq.1 rfl rfl rfl (Nat.le_of_ble_eq_true rfl) ⟨Nat.le_of_ble_eq_true rfl, Nat.le_of_ble_eq_true rfl⟩ ⟨Nat.zero_le _, Nat.zero_le _⟩ d_M_unsubscribe_26 (fun _ σ9 h6 => ?_)
  refine g_aload_n F d_M_unsubscribe_29 0 rfl ?_
  refine g_iload_n F d_M_unsubscribe_30 1 rfl ?_
  refine g_iconst F (v := 5) d_M_unsubscribe_31 (by decide) ?_
  refine g_callV F (dp := 0) (ci := 8) (As := [.int p1, .int (5 : Int32)]) (c_M_client0 l _ _ _ hq _) cv_8_46 hq.1 rfl rfl rfl (Nat.le_of_ble_eq_true rfl) ⟨Nat.le_of_ble_eq_true rfl, Nat.le_of_ble_eq_true rfl⟩ ⟨Nat.zero_le _, Nat.zero_le _⟩ d_M_unsubscribe_32 (fun r10 σ11 h7 => ?_)
  refine g_istore_n F (ls' := [(2, .int r10), (0, .ref (xa X q)), (1, .int p1)]) d_M_unsubscribe_35 (by decide) rfl ?_
  refine g_aload_n F d_M_unsubscribe_36 1 rfl ?_
  refine g_getR F fs_8_7 hq.1 rfl d_M_unsubscribe_37 ?_
  refine g_sipush F (v := 163) d_M_unsubscribe_40 (by decide) ?_
  refine g_bipush F (v := 27) d_M_unsubscribe_43 (by decide) ?_
  refine g_iload_n F d_M_unsubscribe_45 2 rfl ?_
  refine g_imul F d_M_unsubscribe_46 ?_
  refine g_iadd F d_M_unsubscribe_47 ?_
  refine g_iconst F (v := 0) d_M_unsubscribe_48 (by decide) ?_
  refine g_iadd F d_M_unsubscribe_49 ?_
  refine g_iconst F (v := 0) d_M_unsubscribe_50 (by decide) ?_
  refine g_iast F (n := 481) hq.2.1 d_M_unsubscribe_51 ?_
  refine g_ltM (fun σ12 _ => ?_)
  refine g_aload_n F d_M_unsubscribe_52 1 rfl ?_
  refine g_callV F (dp := 3) (ci := 8) (As := []) (c_M_restartIfChanged l _ hq _) cv_8_141 hq.1 rfl rfl rfl (Nat.le_of_ble_eq_true rfl) ⟨Nat.le_of_ble_eq_true rfl, Nat.le_of_ble_eq_true rfl⟩ ⟨Nat.zero_le _, Nat.zero_le _⟩ d_M_unsubscribe_53 (fun _ σ14 h8 => ?_)
  refine g_iload_n F d_M_unsubscribe_56 0 rfl ?_
  exact g_iret F hlk hr d_M_unsubscribe_57
def y_M_setCapacity : MethodName := ⟨"SensorHubModel", "setCapacity", "(I)I"⟩
theorem d_M_setCapacity_0 : decode prog_10_method_44_code 0 = .ok (.aload_n 0, 1) := by decide +kernel
theorem d_M_setCapacity_1 : decode prog_10_method_44_code 1 = .ok (.iconst 0, 1) := by decide +kernel
theorem d_M_setCapacity_2 : decode prog_10_method_44_code 2 = .ok (.putfield 35, 3) := by decide +kernel
theorem d_M_setCapacity_5 : decode prog_10_method_44_code 5 = .ok (.iload_n 1, 1) := by decide +kernel
theorem d_M_setCapacity_6 : decode prog_10_method_44_code 6 = .ok (.iconst 1, 1) := by decide +kernel
theorem d_M_setCapacity_7 : decode prog_10_method_44_code 7 = .ok (.bipush 30, 2) := by decide +kernel
theorem d_M_setCapacity_9 : decode prog_10_method_44_code 9 = .ok (.invokestatic 42, 3) := by decide +kernel
theorem d_M_setCapacity_12 : decode prog_10_method_44_code 12 = .ok (.ifCond .ne 5, 3) := by decide +kernel
theorem d_M_setCapacity_15 : decode prog_10_method_44_code 15 = .ok (.iconst (-1), 1) := by decide +kernel
theorem d_M_setCapacity_16 : decode prog_10_method_44_code 16 = .ok (.ireturn, 1) := by decide +kernel
theorem d_M_setCapacity_17 : decode prog_10_method_44_code 17 = .ok (.aload_n 0, 1) := by decide +kernel
theorem d_M_setCapacity_18 : decode prog_10_method_44_code 18 = .ok (.invokevirtual 117, 3) := by decide +kernel
theorem d_M_setCapacity_21 : decode prog_10_method_44_code 21 = .ok (.aload_n 0, 1) := by decide +kernel
theorem d_M_setCapacity_22 : decode prog_10_method_44_code 22 = .ok (.iconst 2, 1) := by decide +kernel
theorem d_M_setCapacity_23 : decode prog_10_method_44_code 23 = .ok (.invokevirtual 98, 3) := by decide +kernel
theorem d_M_setCapacity_26 : decode prog_10_method_44_code 26 = .ok (.pop, 1) := by decide +kernel
theorem d_M_setCapacity_27 : decode prog_10_method_44_code 27 = .ok (.aload_n 0, 1) := by decide +kernel
theorem d_M_setCapacity_28 : decode prog_10_method_44_code 28 = .ok (.getfield 7, 3) := by decide +kernel
theorem d_M_setCapacity_31 : decode prog_10_method_44_code 31 = .ok (.iconst 4, 1) := by decide +kernel
theorem d_M_setCapacity_32 : decode prog_10_method_44_code 32 = .ok (.iaload, 1) := by decide +kernel
theorem d_M_setCapacity_33 : decode prog_10_method_44_code 33 = .ok (.istore_n 2, 1) := by decide +kernel
theorem d_M_setCapacity_34 : decode prog_10_method_44_code 34 = .ok (.aload_n 0, 1) := by decide +kernel
theorem d_M_setCapacity_35 : decode prog_10_method_44_code 35 = .ok (.getfield 7, 3) := by decide +kernel
theorem d_M_setCapacity_38 : decode prog_10_method_44_code 38 = .ok (.iconst 4, 1) := by decide +kernel
theorem d_M_setCapacity_39 : decode prog_10_method_44_code 39 = .ok (.iload_n 1, 1) := by decide +kernel
theorem d_M_setCapacity_40 : decode prog_10_method_44_code 40 = .ok (.iastore, 1) := by decide +kernel
theorem d_M_setCapacity_41 : decode prog_10_method_44_code 41 = .ok (.iload_n 2, 1) := by decide +kernel
theorem d_M_setCapacity_42 : decode prog_10_method_44_code 42 = .ok (.ireturn, 1) := by decide +kernel
def f_M_setCapacity (q : Nat) (p1 : Int32) (σ : Mem) : Option (Int32 × Mem) :=
  lt (wr σ q 0 (0 : Int32)) fun σ1 =>
  bd (f_M_in p1 (1 : Int32) (30 : Int32) σ1) fun r2 σ3 =>
  if r2 = 0 then
    some ((-1 : Int32), σ3)
  else
    bd (f_M_keep q σ3) fun _ σ5 =>
    bd (f_M_wake q (2 : Int32) σ5) fun r6 σ7 =>
    lt (σ7 (q + 1) 4) fun v8 =>
    lt (wr σ7 (q + 1) 4 p1) fun σ9 =>
    some (v8, σ9)
set_option maxRecDepth 100000 in
set_option maxHeartbeats 4000000 in
theorem c_M_setCapacity {X : CX} (l : Launch) (q : Nat) (p1 : Int32) (hq : ModelOK X q) (σ : Mem) : CT X l y_M_setCapacity prog_10_method_44_code 3 (some .int) 3 vI [.ref (xa X q), .int p1] σ (f_M_setCapacity q p1 σ) := by
  refine CT_of (by decide +kernel) (Nat.le_of_ble_eq_true rfl) ?_
  intro p e s m args below meth c F hlk hr
  have F : FR p s m args c prog_10_method_44_code 3 "SensorHubModel" X := F
  show G X p l e (rmD 3) s m args below meth c 3 0 0 (QI X below args s vI) 0 [(0, .ref (xa X q)), (1, .int p1)] [] σ _
  unfold f_M_setCapacity
  refine g_aload_n F d_M_setCapacity_0 0 rfl ?_
  refine g_iconst F (v := 0) d_M_setCapacity_1 (by decide) ?_
  refine g_putI F fw_8_35 hq.1 rfl d_M_setCapacity_2 ?_
  refine g_ltM (fun σ1 _ => ?_)
  refine g_iload_n F d_M_setCapacity_5 1 rfl ?_
  refine g_iconst F (v := 1) d_M_setCapacity_6 (by decide) ?_
  refine g_bipush F (v := 30) d_M_setCapacity_7 (by decide) ?_
  refine g_callS F (dp := 0) (As := [.int p1, .int (1 : Int32), .int (30 : Int32)]) (c_M_in l _ _ _ _) cs_8_42 rfl rfl (Nat.le_of_ble_eq_true rfl) ⟨Nat.le_of_ble_eq_true rfl, Nat.le_of_ble_eq_true rfl⟩ ⟨Nat.zero_le _, Nat.zero_le _⟩ d_M_setCapacity_9 (fun r2 σ3 h1 => ?_)
  refine g_if_ne F (tgt := 17) d_M_setCapacity_12 (by decide) (fun h2 => ?_) (fun h3 => ?_)
  · refine g_iconst F (v := (-1)) d_M_setCapacity_15 (by decide) ?_
    exact g_iret F hlk hr d_M_setCapacity_16
  refine g_aload_n F d_M_setCapacity_17 0 rfl ?_
  refine g_callV F (dp := 0) (ci := 8) (As := []) (c_M_keep l _ hq _) cv_8_117 hq.1 rfl rfl rfl (Nat.le_of_ble_eq_true rfl) ⟨Nat.le_of_ble_eq_true rfl, Nat.le_of_ble_eq_true rfl⟩ ⟨Nat.zero_le _, Nat.zero_le _⟩ d_M_setCapacity_18 (fun _ σ5 h4 => ?_)
  refine g_aload_n F d_M_setCapacity_21 0 rfl ?_
  refine g_iconst F (v := 2) d_M_setCapacity_22 (by decide) ?_
  refine g_callV F (dp := 2) (ci := 8) (As := [.int (2 : Int32)]) (c_M_wake l _ _ hq _) cv_8_98 hq.1 rfl rfl rfl (Nat.le_of_ble_eq_true rfl) ⟨Nat.le_of_ble_eq_true rfl, Nat.le_of_ble_eq_true rfl⟩ ⟨Nat.zero_le _, Nat.zero_le _⟩ d_M_setCapacity_23 (fun r6 σ7 h5 => ?_)
  refine g_pop F d_M_setCapacity_26 rfl ?_
  refine g_aload_n F d_M_setCapacity_27 0 rfl ?_
  refine g_getR F fs_8_7 hq.1 rfl d_M_setCapacity_28 ?_
  refine g_iconst F (v := 4) d_M_setCapacity_31 (by decide) ?_
  refine g_ialdC F (n := 481) 4 (by decide) (by decide) hq.2.1 d_M_setCapacity_32 ?_
  refine g_ltI (fun v8 _ => ?_)
  refine g_istore_n F (ls' := [(2, .int v8), (0, .ref (xa X q)), (1, .int p1)]) d_M_setCapacity_33 (by decide) rfl ?_
  refine g_aload_n F d_M_setCapacity_34 1 rfl ?_
  refine g_getR F fs_8_7 hq.1 rfl d_M_setCapacity_35 ?_
  refine g_iconst F (v := 4) d_M_setCapacity_38 (by decide) ?_
  refine g_iload_n F d_M_setCapacity_39 2 rfl ?_
  refine g_iastC F (n := 481) 4 (by decide) (by decide) hq.2.1 d_M_setCapacity_40 ?_
  refine g_ltM (fun σ9 _ => ?_)
  refine g_iload_n F d_M_setCapacity_41 0 rfl ?_
  exact g_iret F hlk hr d_M_setCapacity_42
def y_M_append : MethodName := ⟨"SensorHubModel", "append", "(I)I"⟩
theorem d_M_append_0 : decode prog_10_method_45_code 0 = .ok (.aload_n 0, 1) := by decide +kernel
theorem d_M_append_1 : decode prog_10_method_45_code 1 = .ok (.iconst 0, 1) := by decide +kernel
theorem d_M_append_2 : decode prog_10_method_45_code 2 = .ok (.putfield 35, 3) := by decide +kernel
theorem d_M_append_5 : decode prog_10_method_45_code 5 = .ok (.iload_n 1, 1) := by decide +kernel
theorem d_M_append_6 : decode prog_10_method_45_code 6 = .ok (.iconst 1, 1) := by decide +kernel
theorem d_M_append_7 : decode prog_10_method_45_code 7 = .ok (.sipush 255, 3) := by decide +kernel
theorem d_M_append_10 : decode prog_10_method_45_code 10 = .ok (.invokestatic 42, 3) := by decide +kernel
theorem d_M_append_13 : decode prog_10_method_45_code 13 = .ok (.ifCond .ne 5, 3) := by decide +kernel
theorem d_M_append_16 : decode prog_10_method_45_code 16 = .ok (.iconst (-1), 1) := by decide +kernel
theorem d_M_append_17 : decode prog_10_method_45_code 17 = .ok (.ireturn, 1) := by decide +kernel
theorem d_M_append_18 : decode prog_10_method_45_code 18 = .ok (.aload_n 0, 1) := by decide +kernel
theorem d_M_append_19 : decode prog_10_method_45_code 19 = .ok (.getfield 147, 3) := by decide +kernel
theorem d_M_append_22 : decode prog_10_method_45_code 22 = .ok (.sipush 160, 3) := by decide +kernel
theorem d_M_append_25 : decode prog_10_method_45_code 25 = .ok (.if_icmp .ne 6, 3) := by decide +kernel
theorem d_M_append_28 : decode prog_10_method_45_code 28 = .ok (.bipush (-3), 2) := by decide +kernel
theorem d_M_append_30 : decode prog_10_method_45_code 30 = .ok (.ireturn, 1) := by decide +kernel
theorem d_M_append_31 : decode prog_10_method_45_code 31 = .ok (.aload_n 0, 1) := by decide +kernel
theorem d_M_append_32 : decode prog_10_method_45_code 32 = .ok (.getfield 16, 3) := by decide +kernel
theorem d_M_append_35 : decode prog_10_method_45_code 35 = .ok (.aload_n 0, 1) := by decide +kernel
theorem d_M_append_36 : decode prog_10_method_45_code 36 = .ok (.getfield 147, 3) := by decide +kernel
theorem d_M_append_39 : decode prog_10_method_45_code 39 = .ok (.iload_n 1, 1) := by decide +kernel
theorem d_M_append_40 : decode prog_10_method_45_code 40 = .ok (.iastore, 1) := by decide +kernel
theorem d_M_append_41 : decode prog_10_method_45_code 41 = .ok (.aload_n 0, 1) := by decide +kernel
theorem d_M_append_42 : decode prog_10_method_45_code 42 = .ok (.dup, 1) := by decide +kernel
theorem d_M_append_43 : decode prog_10_method_45_code 43 = .ok (.getfield 147, 3) := by decide +kernel
theorem d_M_append_46 : decode prog_10_method_45_code 46 = .ok (.iconst 1, 1) := by decide +kernel
theorem d_M_append_47 : decode prog_10_method_45_code 47 = .ok (.iadd, 1) := by decide +kernel
theorem d_M_append_48 : decode prog_10_method_45_code 48 = .ok (.putfield 147, 3) := by decide +kernel
theorem d_M_append_51 : decode prog_10_method_45_code 51 = .ok (.aload_n 0, 1) := by decide +kernel
theorem d_M_append_52 : decode prog_10_method_45_code 52 = .ok (.getfield 147, 3) := by decide +kernel
theorem d_M_append_55 : decode prog_10_method_45_code 55 = .ok (.ireturn, 1) := by decide +kernel
theorem fs_8_147 : FS "SensorHubModel" 147 8 5 := ⟨"SensorHubModel", T_8, 16, rfl, by decide, rfl, gw_I 897 (by decide +kernel) rfl⟩
theorem fs_8_16 : FS "SensorHubModel" 16 8 4 := ⟨"SensorHubModel", T_8, 16, rfl, by decide, rfl, gw_I 896 (by decide +kernel) rfl⟩
theorem fw_8_147 : FW "SensorHubModel" 147 8 5 .int := ⟨"SensorHubModel", T_8, 16, rfl, by decide, rfl, gw_I 897 (by decide +kernel) rfl, rfl, by decide +kernel⟩
def f_M_append (q : Nat) (p1 : Int32) (σ : Mem) : Option (Int32 × Mem) :=
  lt (wr σ q 0 (0 : Int32)) fun σ1 =>
  bd (f_M_in p1 (1 : Int32) (255 : Int32) σ1) fun r2 σ3 =>
  if r2 = 0 then
    some ((-1 : Int32), σ3)
  else
    if (σ3 q 5) = (160 : Int32) then
      some ((-3 : Int32), σ3)
    else
      if ib (σ3 q 5) 160 then
        lt (wr σ3 (q + 3) (σ3 q 5).toNatClampNeg p1) fun σ4 =>
        lt (wr σ4 q 5 ((σ4 q 5) + (1 : Int32))) fun σ5 =>
        some (σ5 q 5, σ5)
      else none
set_option maxRecDepth 100000 in
set_option maxHeartbeats 4000000 in
theorem c_M_append {X : CX} (l : Launch) (q : Nat) (p1 : Int32) (hq : ModelOK X q) (σ : Mem) : CT X l y_M_append prog_10_method_45_code 2 (some .int) 1 vI [.ref (xa X q), .int p1] σ (f_M_append q p1 σ) := by
  refine CT_of (by decide +kernel) (Nat.le_of_ble_eq_true rfl) ?_
  intro p e s m args below meth c F hlk hr
  have F : FR p s m args c prog_10_method_45_code 2 "SensorHubModel" X := F
  show G X p l e (rmD 1) s m args below meth c 2 0 0 (QI X below args s vI) 0 [(0, .ref (xa X q)), (1, .int p1)] [] σ _
  unfold f_M_append
  refine g_aload_n F d_M_append_0 0 rfl ?_
  refine g_iconst F (v := 0) d_M_append_1 (by decide) ?_
  refine g_putI F fw_8_35 hq.1 rfl d_M_append_2 ?_
  refine g_ltM (fun σ1 _ => ?_)
  refine g_iload_n F d_M_append_5 1 rfl ?_
  refine g_iconst F (v := 1) d_M_append_6 (by decide) ?_
  refine g_sipush F (v := 255) d_M_append_7 (by decide) ?_
  refine g_callS F (dp := 0) (As := [.int p1, .int (1 : Int32), .int (255 : Int32)]) (c_M_in l _ _ _ _) cs_8_42 rfl rfl (Nat.le_of_ble_eq_true rfl) ⟨Nat.le_of_ble_eq_true rfl, Nat.le_of_ble_eq_true rfl⟩ ⟨Nat.zero_le _, Nat.zero_le _⟩ d_M_append_10 (fun r2 σ3 h1 => ?_)
  refine g_if_ne F (tgt := 18) d_M_append_13 (by decide) (fun h2 => ?_) (fun h3 => ?_)
  · refine g_iconst F (v := (-1)) d_M_append_16 (by decide) ?_
    exact g_iret F hlk hr d_M_append_17
  refine g_aload_n F d_M_append_18 0 rfl ?_
  refine g_getI F fs_8_147 hq.1 rfl d_M_append_19 ?_
  refine g_sipush F (v := 160) d_M_append_22 (by decide) ?_
  refine g_icmp_ne F (tgt := 31) d_M_append_25 (by decide) (fun h4 => ?_) (fun h5 => ?_)
  · refine g_bipush F (v := (-3)) d_M_append_28 (by decide) ?_
    exact g_iret F hlk hr d_M_append_30
  refine g_aload_n F d_M_append_31 0 rfl ?_
  refine g_getR F fs_8_16 hq.1 rfl d_M_append_32 ?_
  refine g_aload_n F d_M_append_35 0 rfl ?_
  refine g_getI F fs_8_147 hq.1 rfl d_M_append_36 ?_
  refine g_iload_n F d_M_append_39 1 rfl ?_
  refine g_iast F (n := 160) hq.2.2.2.1 d_M_append_40 ?_
  refine g_ltM (fun σ4 _ => ?_)
  refine g_aload_n F d_M_append_41 0 rfl ?_
  refine g_dup F d_M_append_42 rfl ?_
  refine g_getI F fs_8_147 hq.1 rfl d_M_append_43 ?_
  refine g_iconst F (v := 1) d_M_append_46 (by decide) ?_
  refine g_iadd F d_M_append_47 ?_
  refine g_putI F fw_8_147 hq.1 rfl d_M_append_48 ?_
  refine g_ltM (fun σ5 _ => ?_)
  refine g_aload_n F d_M_append_51 0 rfl ?_
  refine g_getI F fs_8_147 hq.1 rfl d_M_append_52 ?_
  exact g_iret F hlk hr d_M_append_55
def y_M_clearText : MethodName := ⟨"SensorHubModel", "clearText", "()I"⟩
theorem d_M_clearText_0 : decode prog_10_method_46_code 0 = .ok (.aload_n 0, 1) := by decide +kernel
theorem d_M_clearText_1 : decode prog_10_method_46_code 1 = .ok (.iconst 0, 1) := by decide +kernel
theorem d_M_clearText_2 : decode prog_10_method_46_code 2 = .ok (.putfield 35, 3) := by decide +kernel
theorem d_M_clearText_5 : decode prog_10_method_46_code 5 = .ok (.aload_n 0, 1) := by decide +kernel
theorem d_M_clearText_6 : decode prog_10_method_46_code 6 = .ok (.getfield 147, 3) := by decide +kernel
theorem d_M_clearText_9 : decode prog_10_method_46_code 9 = .ok (.istore_n 1, 1) := by decide +kernel
theorem d_M_clearText_10 : decode prog_10_method_46_code 10 = .ok (.aload_n 0, 1) := by decide +kernel
theorem d_M_clearText_11 : decode prog_10_method_46_code 11 = .ok (.iconst 0, 1) := by decide +kernel
theorem d_M_clearText_12 : decode prog_10_method_46_code 12 = .ok (.putfield 147, 3) := by decide +kernel
theorem d_M_clearText_15 : decode prog_10_method_46_code 15 = .ok (.iload_n 1, 1) := by decide +kernel
theorem d_M_clearText_16 : decode prog_10_method_46_code 16 = .ok (.ireturn, 1) := by decide +kernel
def f_M_clearText (q : Nat) (σ : Mem) : Option (Int32 × Mem) :=
  lt (wr σ q 0 (0 : Int32)) fun σ1 =>
  lt (σ1 q 5) fun v2 =>
  lt (wr σ1 q 5 (0 : Int32)) fun σ3 =>
  some (v2, σ3)
set_option maxRecDepth 100000 in
set_option maxHeartbeats 4000000 in
theorem c_M_clearText {X : CX} (l : Launch) (q : Nat) (hq : ModelOK X q) (σ : Mem) : CT X l y_M_clearText prog_10_method_46_code 2 (some .int) 0 vI [.ref (xa X q)] σ (f_M_clearText q σ) := by
  refine CT_of (by decide +kernel) (Nat.le_of_ble_eq_true rfl) ?_
  intro p e s m args below meth c F hlk hr
  have F : FR p s m args c prog_10_method_46_code 2 "SensorHubModel" X := F
  show G X p l e (rmD 0) s m args below meth c 2 0 0 (QI X below args s vI) 0 [(0, .ref (xa X q))] [] σ _
  unfold f_M_clearText
  refine g_aload_n F d_M_clearText_0 0 rfl ?_
  refine g_iconst F (v := 0) d_M_clearText_1 (by decide) ?_
  refine g_putI F fw_8_35 hq.1 rfl d_M_clearText_2 ?_
  refine g_ltM (fun σ1 _ => ?_)
  refine g_aload_n F d_M_clearText_5 0 rfl ?_
  refine g_getI F fs_8_147 hq.1 rfl d_M_clearText_6 ?_
  refine g_ltI (fun v2 _ => ?_)
  refine g_istore_n F (ls' := [(1, .int v2), (0, .ref (xa X q))]) d_M_clearText_9 (by decide) rfl ?_
  refine g_aload_n F d_M_clearText_10 1 rfl ?_
  refine g_iconst F (v := 0) d_M_clearText_11 (by decide) ?_
  refine g_putI F fw_8_147 hq.1 rfl d_M_clearText_12 ?_
  refine g_ltM (fun σ3 _ => ?_)
  refine g_iload_n F d_M_clearText_15 0 rfl ?_
  exact g_iret F hlk hr d_M_clearText_16
def y_M_here : MethodName := ⟨"SensorHubModel", "here", "()I"⟩
theorem d_M_here_0 : decode prog_10_method_47_code 0 = .ok (.aload_n 0, 1) := by decide +kernel
theorem d_M_here_1 : decode prog_10_method_47_code 1 = .ok (.getfield 150, 3) := by decide +kernel
theorem d_M_here_4 : decode prog_10_method_47_code 4 = .ok (.aload_n 0, 1) := by decide +kernel
theorem d_M_here_5 : decode prog_10_method_47_code 5 = .ok (.getfield 147, 3) := by decide +kernel
theorem d_M_here_8 : decode prog_10_method_47_code 8 = .ok (.if_icmp .ge 15, 3) := by decide +kernel
theorem d_M_here_11 : decode prog_10_method_47_code 11 = .ok (.aload_n 0, 1) := by decide +kernel
theorem d_M_here_12 : decode prog_10_method_47_code 12 = .ok (.getfield 16, 3) := by decide +kernel
theorem d_M_here_15 : decode prog_10_method_47_code 15 = .ok (.aload_n 0, 1) := by decide +kernel
theorem d_M_here_16 : decode prog_10_method_47_code 16 = .ok (.getfield 150, 3) := by decide +kernel
theorem d_M_here_19 : decode prog_10_method_47_code 19 = .ok (.iaload, 1) := by decide +kernel
theorem d_M_here_20 : decode prog_10_method_47_code 20 = .ok (.goto 4, 3) := by decide +kernel
theorem d_M_here_23 : decode prog_10_method_47_code 23 = .ok (.iconst (-1), 1) := by decide +kernel
theorem d_M_here_24 : decode prog_10_method_47_code 24 = .ok (.ireturn, 1) := by decide +kernel
theorem fs_8_150 : FS "SensorHubModel" 150 8 11 := ⟨"SensorHubModel", T_8, 16, rfl, by decide, rfl, gw_I 903 (by decide +kernel) rfl⟩
def f_M_here (q : Nat) (σ : Mem) : Option (Int32 × Mem) :=
  if (σ q 5) ≤ (σ q 11) then
    some ((-1 : Int32), σ)
  else
    if ib (σ q 11) 160 then
      some (σ (q + 3) (σ q 11).toNatClampNeg, σ)
    else none
set_option maxRecDepth 100000 in
set_option maxHeartbeats 4000000 in
theorem c_M_here {X : CX} (l : Launch) (q : Nat) (hq : ModelOK X q) (σ : Mem) : CT X l y_M_here prog_10_method_47_code 1 (some .int) 0 vI [.ref (xa X q)] σ (f_M_here q σ) := by
  refine CT_of (by decide +kernel) (Nat.le_of_ble_eq_true rfl) ?_
  intro p e s m args below meth c F hlk hr
  have F : FR p s m args c prog_10_method_47_code 1 "SensorHubModel" X := F
  show G X p l e (rmD 0) s m args below meth c 1 0 0 (QI X below args s vI) 0 [(0, .ref (xa X q))] [] σ _
  unfold f_M_here
  refine g_aload_n F d_M_here_0 0 rfl ?_
  refine g_getI F fs_8_150 hq.1 rfl d_M_here_1 ?_
  refine g_aload_n F d_M_here_4 0 rfl ?_
  refine g_getI F fs_8_147 hq.1 rfl d_M_here_5 ?_
  refine g_icmp_ge F (tgt := 23) d_M_here_8 (by decide) (fun h1 => ?_) (fun h2 => ?_)
  · refine g_iconst F (v := (-1)) d_M_here_23 (by decide) ?_
    exact g_iret F hlk hr d_M_here_24
  refine g_aload_n F d_M_here_11 0 rfl ?_
  refine g_getR F fs_8_16 hq.1 rfl d_M_here_12 ?_
  refine g_aload_n F d_M_here_15 0 rfl ?_
  refine g_getI F fs_8_150 hq.1 rfl d_M_here_16 ?_
  refine g_iald F (n := 160) hq.2.2.2.1 d_M_here_19 ?_
  refine g_goto F (tgt := 24) d_M_here_20 (by decide) ?_
  exact g_iret F hlk hr d_M_here_24
def y_M_read : MethodName := ⟨"SensorHubModel", "read", "()V"⟩
theorem d_M_read_0 : decode prog_10_method_48_code 0 = .ok (.aload_n 0, 1) := by decide +kernel
theorem d_M_read_1 : decode prog_10_method_48_code 1 = .ok (.invokevirtual 153, 3) := by decide +kernel
theorem d_M_read_4 : decode prog_10_method_48_code 4 = .ok (.bipush 32, 2) := by decide +kernel
theorem d_M_read_6 : decode prog_10_method_48_code 6 = .ok (.if_icmp .ne 16, 3) := by decide +kernel
theorem d_M_read_9 : decode prog_10_method_48_code 9 = .ok (.aload_n 0, 1) := by decide +kernel
theorem d_M_read_10 : decode prog_10_method_48_code 10 = .ok (.dup, 1) := by decide +kernel
theorem d_M_read_11 : decode prog_10_method_48_code 11 = .ok (.getfield 150, 3) := by decide +kernel
theorem d_M_read_14 : decode prog_10_method_48_code 14 = .ok (.iconst 1, 1) := by decide +kernel
theorem d_M_read_15 : decode prog_10_method_48_code 15 = .ok (.iadd, 1) := by decide +kernel
theorem d_M_read_16 : decode prog_10_method_48_code 16 = .ok (.putfield 150, 3) := by decide +kernel
theorem d_M_read_19 : decode prog_10_method_48_code 19 = .ok (.goto (-19), 3) := by decide +kernel
theorem d_M_read_22 : decode prog_10_method_48_code 22 = .ok (.aload_n 0, 1) := by decide +kernel
theorem d_M_read_23 : decode prog_10_method_48_code 23 = .ok (.aload_n 0, 1) := by decide +kernel
theorem d_M_read_24 : decode prog_10_method_48_code 24 = .ok (.getfield 150, 3) := by decide +kernel
theorem d_M_read_27 : decode prog_10_method_48_code 27 = .ok (.putfield 156, 3) := by decide +kernel
theorem d_M_read_30 : decode prog_10_method_48_code 30 = .ok (.aload_n 0, 1) := by decide +kernel
theorem d_M_read_31 : decode prog_10_method_48_code 31 = .ok (.aload_n 0, 1) := by decide +kernel
theorem d_M_read_32 : decode prog_10_method_48_code 32 = .ok (.invokevirtual 153, 3) := by decide +kernel
theorem d_M_read_35 : decode prog_10_method_48_code 35 = .ok (.ifCond .ge 7, 3) := by decide +kernel
theorem d_M_read_38 : decode prog_10_method_48_code 38 = .ok (.iconst 3, 1) := by decide +kernel
theorem d_M_read_39 : decode prog_10_method_48_code 39 = .ok (.goto 4, 3) := by decide +kernel
theorem d_M_read_42 : decode prog_10_method_48_code 42 = .ok (.iconst 2, 1) := by decide +kernel
theorem d_M_read_43 : decode prog_10_method_48_code 43 = .ok (.putfield 159, 3) := by decide +kernel
theorem d_M_read_46 : decode prog_10_method_48_code 46 = .ok (.aload_n 0, 1) := by decide +kernel
theorem d_M_read_47 : decode prog_10_method_48_code 47 = .ok (.iconst 0, 1) := by decide +kernel
theorem d_M_read_48 : decode prog_10_method_48_code 48 = .ok (.putfield 162, 3) := by decide +kernel
theorem d_M_read_51 : decode prog_10_method_48_code 51 = .ok (.aload_n 0, 1) := by decide +kernel
theorem d_M_read_52 : decode prog_10_method_48_code 52 = .ok (.invokevirtual 153, 3) := by decide +kernel
theorem d_M_read_55 : decode prog_10_method_48_code 55 = .ok (.bipush 97, 2) := by decide +kernel
theorem d_M_read_57 : decode prog_10_method_48_code 57 = .ok (.bipush 122, 2) := by decide +kernel
theorem d_M_read_59 : decode prog_10_method_48_code 59 = .ok (.invokestatic 42, 3) := by decide +kernel
theorem d_M_read_62 : decode prog_10_method_48_code 62 = .ok (.ifCond .eq 35, 3) := by decide +kernel
theorem d_M_read_65 : decode prog_10_method_48_code 65 = .ok (.aload_n 0, 1) := by decide +kernel
theorem d_M_read_66 : decode prog_10_method_48_code 66 = .ok (.iconst 0, 1) := by decide +kernel
theorem d_M_read_67 : decode prog_10_method_48_code 67 = .ok (.putfield 159, 3) := by decide +kernel
theorem d_M_read_70 : decode prog_10_method_48_code 70 = .ok (.aload_n 0, 1) := by decide +kernel
theorem d_M_read_71 : decode prog_10_method_48_code 71 = .ok (.invokevirtual 153, 3) := by decide +kernel
theorem d_M_read_74 : decode prog_10_method_48_code 74 = .ok (.bipush 97, 2) := by decide +kernel
theorem d_M_read_76 : decode prog_10_method_48_code 76 = .ok (.bipush 122, 2) := by decide +kernel
theorem d_M_read_78 : decode prog_10_method_48_code 78 = .ok (.invokestatic 42, 3) := by decide +kernel
theorem d_M_read_81 : decode prog_10_method_48_code 81 = .ok (.ifCond .eq 180, 3) := by decide +kernel
theorem d_M_read_84 : decode prog_10_method_48_code 84 = .ok (.aload_n 0, 1) := by decide +kernel
theorem d_M_read_85 : decode prog_10_method_48_code 85 = .ok (.dup, 1) := by decide +kernel
theorem d_M_read_86 : decode prog_10_method_48_code 86 = .ok (.getfield 150, 3) := by decide +kernel
theorem d_M_read_89 : decode prog_10_method_48_code 89 = .ok (.iconst 1, 1) := by decide +kernel
theorem d_M_read_90 : decode prog_10_method_48_code 90 = .ok (.iadd, 1) := by decide +kernel
theorem d_M_read_91 : decode prog_10_method_48_code 91 = .ok (.putfield 150, 3) := by decide +kernel
theorem d_M_read_94 : decode prog_10_method_48_code 94 = .ok (.goto (-24), 3) := by decide +kernel
theorem d_M_read_97 : decode prog_10_method_48_code 97 = .ok (.aload_n 0, 1) := by decide +kernel
theorem d_M_read_98 : decode prog_10_method_48_code 98 = .ok (.invokevirtual 153, 3) := by decide +kernel
theorem d_M_read_101 : decode prog_10_method_48_code 101 = .ok (.bipush 48, 2) := by decide +kernel
theorem d_M_read_103 : decode prog_10_method_48_code 103 = .ok (.bipush 57, 2) := by decide +kernel
theorem d_M_read_105 : decode prog_10_method_48_code 105 = .ok (.invokestatic 42, 3) := by decide +kernel
theorem d_M_read_108 : decode prog_10_method_48_code 108 = .ok (.ifCond .eq 136, 3) := by decide +kernel
theorem d_M_read_111 : decode prog_10_method_48_code 111 = .ok (.aload_n 0, 1) := by decide +kernel
theorem d_M_read_112 : decode prog_10_method_48_code 112 = .ok (.iconst 1, 1) := by decide +kernel
theorem d_M_read_113 : decode prog_10_method_48_code 113 = .ok (.putfield 159, 3) := by decide +kernel
theorem d_M_read_116 : decode prog_10_method_48_code 116 = .ok (.aload_n 0, 1) := by decide +kernel
theorem d_M_read_117 : decode prog_10_method_48_code 117 = .ok (.invokevirtual 153, 3) := by decide +kernel
theorem d_M_read_120 : decode prog_10_method_48_code 120 = .ok (.bipush 48, 2) := by decide +kernel
theorem d_M_read_122 : decode prog_10_method_48_code 122 = .ok (.bipush 57, 2) := by decide +kernel
theorem d_M_read_124 : decode prog_10_method_48_code 124 = .ok (.invokestatic 42, 3) := by decide +kernel
theorem d_M_read_127 : decode prog_10_method_48_code 127 = .ok (.ifCond .eq 52, 3) := by decide +kernel
theorem d_M_read_130 : decode prog_10_method_48_code 130 = .ok (.aload_n 0, 1) := by decide +kernel
theorem d_M_read_131 : decode prog_10_method_48_code 131 = .ok (.aload_n 0, 1) := by decide +kernel
theorem d_M_read_132 : decode prog_10_method_48_code 132 = .ok (.getfield 150, 3) := by decide +kernel
theorem d_M_read_135 : decode prog_10_method_48_code 135 = .ok (.aload_n 0, 1) := by decide +kernel
theorem d_M_read_136 : decode prog_10_method_48_code 136 = .ok (.getfield 156, 3) := by decide +kernel
theorem d_M_read_139 : decode prog_10_method_48_code 139 = .ok (.isub, 1) := by decide +kernel
theorem d_M_read_140 : decode prog_10_method_48_code 140 = .ok (.iconst 4, 1) := by decide +kernel
theorem d_M_read_141 : decode prog_10_method_48_code 141 = .ok (.if_icmp .ge 21, 3) := by decide +kernel
theorem d_M_read_144 : decode prog_10_method_48_code 144 = .ok (.bipush 10, 2) := by decide +kernel
theorem d_M_read_146 : decode prog_10_method_48_code 146 = .ok (.aload_n 0, 1) := by decide +kernel
theorem d_M_read_147 : decode prog_10_method_48_code 147 = .ok (.getfield 162, 3) := by decide +kernel
theorem d_M_read_150 : decode prog_10_method_48_code 150 = .ok (.imul, 1) := by decide +kernel
theorem d_M_read_151 : decode prog_10_method_48_code 151 = .ok (.aload_n 0, 1) := by decide +kernel
theorem d_M_read_152 : decode prog_10_method_48_code 152 = .ok (.invokevirtual 153, 3) := by decide +kernel
theorem d_M_read_155 : decode prog_10_method_48_code 155 = .ok (.iadd, 1) := by decide +kernel
theorem d_M_read_156 : decode prog_10_method_48_code 156 = .ok (.bipush 48, 2) := by decide +kernel
theorem d_M_read_158 : decode prog_10_method_48_code 158 = .ok (.isub, 1) := by decide +kernel
theorem d_M_read_159 : decode prog_10_method_48_code 159 = .ok (.goto 4, 3) := by decide +kernel
theorem d_M_read_162 : decode prog_10_method_48_code 162 = .ok (.iconst (-1), 1) := by decide +kernel
theorem d_M_read_163 : decode prog_10_method_48_code 163 = .ok (.putfield 162, 3) := by decide +kernel
theorem d_M_read_166 : decode prog_10_method_48_code 166 = .ok (.aload_n 0, 1) := by decide +kernel
theorem d_M_read_167 : decode prog_10_method_48_code 167 = .ok (.dup, 1) := by decide +kernel
theorem d_M_read_168 : decode prog_10_method_48_code 168 = .ok (.getfield 150, 3) := by decide +kernel
theorem d_M_read_171 : decode prog_10_method_48_code 171 = .ok (.iconst 1, 1) := by decide +kernel
theorem d_M_read_172 : decode prog_10_method_48_code 172 = .ok (.iadd, 1) := by decide +kernel
theorem d_M_read_173 : decode prog_10_method_48_code 173 = .ok (.putfield 150, 3) := by decide +kernel
theorem d_M_read_176 : decode prog_10_method_48_code 176 = .ok (.goto (-60), 3) := by decide +kernel
theorem d_M_read_179 : decode prog_10_method_48_code 179 = .ok (.aload_n 0, 1) := by decide +kernel
theorem d_M_read_180 : decode prog_10_method_48_code 180 = .ok (.getfield 150, 3) := by decide +kernel
theorem d_M_read_183 : decode prog_10_method_48_code 183 = .ok (.aload_n 0, 1) := by decide +kernel
theorem d_M_read_184 : decode prog_10_method_48_code 184 = .ok (.getfield 156, 3) := by decide +kernel
theorem d_M_read_187 : decode prog_10_method_48_code 187 = .ok (.isub, 1) := by decide +kernel
theorem d_M_read_188 : decode prog_10_method_48_code 188 = .ok (.iconst 4, 1) := by decide +kernel
theorem d_M_read_189 : decode prog_10_method_48_code 189 = .ok (.if_icmp .gt 34, 3) := by decide +kernel
theorem d_M_read_192 : decode prog_10_method_48_code 192 = .ok (.aload_n 0, 1) := by decide +kernel
theorem d_M_read_193 : decode prog_10_method_48_code 193 = .ok (.getfield 16, 3) := by decide +kernel
theorem d_M_read_196 : decode prog_10_method_48_code 196 = .ok (.aload_n 0, 1) := by decide +kernel
theorem d_M_read_197 : decode prog_10_method_48_code 197 = .ok (.getfield 156, 3) := by decide +kernel
theorem d_M_read_200 : decode prog_10_method_48_code 200 = .ok (.iaload, 1) := by decide +kernel
theorem d_M_read_201 : decode prog_10_method_48_code 201 = .ok (.bipush 48, 2) := by decide +kernel
theorem d_M_read_203 : decode prog_10_method_48_code 203 = .ok (.if_icmp .ne 16, 3) := by decide +kernel
theorem d_M_read_206 : decode prog_10_method_48_code 206 = .ok (.aload_n 0, 1) := by decide +kernel
theorem d_M_read_207 : decode prog_10_method_48_code 207 = .ok (.getfield 150, 3) := by decide +kernel
theorem d_M_read_210 : decode prog_10_method_48_code 210 = .ok (.aload_n 0, 1) := by decide +kernel
theorem d_M_read_211 : decode prog_10_method_48_code 211 = .ok (.getfield 156, 3) := by decide +kernel
theorem d_M_read_214 : decode prog_10_method_48_code 214 = .ok (.isub, 1) := by decide +kernel
theorem d_M_read_215 : decode prog_10_method_48_code 215 = .ok (.iconst 1, 1) := by decide +kernel
theorem d_M_read_216 : decode prog_10_method_48_code 216 = .ok (.if_icmp .ne 7, 3) := by decide +kernel
theorem d_M_read_219 : decode prog_10_method_48_code 219 = .ok (.iconst 1, 1) := by decide +kernel
theorem d_M_read_220 : decode prog_10_method_48_code 220 = .ok (.goto 4, 3) := by decide +kernel
theorem d_M_read_223 : decode prog_10_method_48_code 223 = .ok (.iconst 0, 1) := by decide +kernel
theorem d_M_read_224 : decode prog_10_method_48_code 224 = .ok (.istore_n 1, 1) := by decide +kernel
theorem d_M_read_225 : decode prog_10_method_48_code 225 = .ok (.aload_n 0, 1) := by decide +kernel
theorem d_M_read_226 : decode prog_10_method_48_code 226 = .ok (.iload_n 1, 1) := by decide +kernel
theorem d_M_read_227 : decode prog_10_method_48_code 227 = .ok (.ifCond .eq 10, 3) := by decide +kernel
theorem d_M_read_230 : decode prog_10_method_48_code 230 = .ok (.aload_n 0, 1) := by decide +kernel
theorem d_M_read_231 : decode prog_10_method_48_code 231 = .ok (.getfield 162, 3) := by decide +kernel
theorem d_M_read_234 : decode prog_10_method_48_code 234 = .ok (.goto 4, 3) := by decide +kernel
theorem d_M_read_237 : decode prog_10_method_48_code 237 = .ok (.iconst (-1), 1) := by decide +kernel
theorem d_M_read_238 : decode prog_10_method_48_code 238 = .ok (.putfield 162, 3) := by decide +kernel
theorem d_M_read_241 : decode prog_10_method_48_code 241 = .ok (.goto 20, 3) := by decide +kernel
theorem d_M_read_244 : decode prog_10_method_48_code 244 = .ok (.aload_n 0, 1) := by decide +kernel
theorem d_M_read_245 : decode prog_10_method_48_code 245 = .ok (.invokevirtual 153, 3) := by decide +kernel
theorem d_M_read_248 : decode prog_10_method_48_code 248 = .ok (.ifCond .lt 13, 3) := by decide +kernel
theorem d_M_read_251 : decode prog_10_method_48_code 251 = .ok (.aload_n 0, 1) := by decide +kernel
theorem d_M_read_252 : decode prog_10_method_48_code 252 = .ok (.dup, 1) := by decide +kernel
theorem d_M_read_253 : decode prog_10_method_48_code 253 = .ok (.getfield 150, 3) := by decide +kernel
theorem d_M_read_256 : decode prog_10_method_48_code 256 = .ok (.iconst 1, 1) := by decide +kernel
theorem d_M_read_257 : decode prog_10_method_48_code 257 = .ok (.iadd, 1) := by decide +kernel
theorem d_M_read_258 : decode prog_10_method_48_code 258 = .ok (.putfield 150, 3) := by decide +kernel
theorem d_M_read_261 : decode prog_10_method_48_code 261 = .ok (.return_, 1) := by decide +kernel
theorem cv_8_153 : CSV "SensorHubModel" 153 y_M_here prog_10_method_47_code 1 (some .int) 0 := ⟨gw_I 1072 (by decide +kernel) rfl, gw_I 1074 (by decide +kernel) rfl, gw_I 48 (by decide +kernel) rfl, gw_I 78 (by decide +kernel) rfl, gw_I 1075 (by decide +kernel) rfl, ⟨by decide +kernel, by decide +kernel⟩, by decide +kernel⟩
theorem fw_8_150 : FW "SensorHubModel" 150 8 11 .int := ⟨"SensorHubModel", T_8, 16, rfl, by decide, rfl, gw_I 903 (by decide +kernel) rfl, rfl, by decide +kernel⟩
theorem fw_8_156 : FW "SensorHubModel" 156 8 12 .int := ⟨"SensorHubModel", T_8, 16, rfl, by decide, rfl, gw_I 904 (by decide +kernel) rfl, rfl, by decide +kernel⟩
theorem fw_8_159 : FW "SensorHubModel" 159 8 13 .int := ⟨"SensorHubModel", T_8, 16, rfl, by decide, rfl, gw_I 905 (by decide +kernel) rfl, rfl, by decide +kernel⟩
theorem fw_8_162 : FW "SensorHubModel" 162 8 14 .int := ⟨"SensorHubModel", T_8, 16, rfl, by decide, rfl, gw_I 906 (by decide +kernel) rfl, rfl, by decide +kernel⟩
theorem fs_8_156 : FS "SensorHubModel" 156 8 12 := ⟨"SensorHubModel", T_8, 16, rfl, by decide, rfl, gw_I 904 (by decide +kernel) rfl⟩
theorem fs_8_162 : FS "SensorHubModel" 162 8 14 := ⟨"SensorHubModel", T_8, 16, rfl, by decide, rfl, gw_I 906 (by decide +kernel) rfl⟩
def L_M_read_0 (r0 : Nat) (k : Mem → Option (Unit × Mem)) : Nat → Mem → Option (Unit × Mem)
  | 0, _ => none
  | n + 1, σ =>
    bd (f_M_here r0 σ) fun r4 σ5 =>
    if r4 = (32 : Int32) then
      lt (wr σ5 r0 11 ((σ5 r0 11) + (1 : Int32))) fun σ6 =>
      L_M_read_0 r0 k n σ6
    else
      k σ5
def L_M_read_116 (r0 : Nat) (k : Mem → Option (Unit × Mem)) : Nat → Mem → Option (Unit × Mem)
  | 0, _ => none
  | n + 1, σ =>
    bd (f_M_here r0 σ) fun r25 σ26 =>
    bd (f_M_in r25 (48 : Int32) (57 : Int32) σ26) fun r27 σ28 =>
    if r27 = 0 then
      k σ28
    else
      if (4 : Int32) ≤ ((σ28 r0 11) - (σ28 r0 12)) then
        lt (wr σ28 r0 14 (-1 : Int32)) fun σ29 =>
        lt (wr σ29 r0 11 ((σ29 r0 11) + (1 : Int32))) fun σ30 =>
        L_M_read_116 r0 k n σ30
      else
        bd (f_M_here r0 σ28) fun r31 σ32 =>
        lt (wr σ32 r0 14 ((((10 : Int32) * (σ28 r0 14)) + r31) - (48 : Int32))) fun σ33 =>
        lt (wr σ33 r0 11 ((σ33 r0 11) + (1 : Int32))) fun σ34 =>
        L_M_read_116 r0 k n σ34
def L_M_read_70 (r0 : Nat) (k : Mem → Option (Unit × Mem)) : Nat → Mem → Option (Unit × Mem)
  | 0, _ => none
  | n + 1, σ =>
    bd (f_M_here r0 σ) fun r41 σ42 =>
    bd (f_M_in r41 (97 : Int32) (122 : Int32) σ42) fun r43 σ44 =>
    if r43 = 0 then
      some ((), σ44)
    else
      lt (wr σ44 r0 11 ((σ44 r0 11) + (1 : Int32))) fun σ45 =>
      L_M_read_70 r0 k n σ45
def f_M_read (q : Nat) (σ : Mem) : Option (Unit × Mem) :=
  bd (f_M_here q σ) fun r1 σ2 =>
  if r1 = (32 : Int32) then
    lt (wr σ2 q 11 ((σ2 q 11) + (1 : Int32))) fun σ3 =>
    L_M_read_0 q (fun σ7 =>
      lt (wr σ7 q 12 (σ7 q 11)) fun σ8 =>
      bd (f_M_here q σ8) fun r9 σ10 =>
      if 0 ≤ r9 then
        lt (wr σ10 q 13 (2 : Int32)) fun σ11 =>
        lt (wr σ11 q 14 (0 : Int32)) fun σ12 =>
        bd (f_M_here q σ12) fun r13 σ14 =>
        bd (f_M_in r13 (97 : Int32) (122 : Int32) σ14) fun r15 σ16 =>
        if r15 = 0 then
          bd (f_M_here q σ16) fun r17 σ18 =>
          bd (f_M_in r17 (48 : Int32) (57 : Int32) σ18) fun r19 σ20 =>
          if r19 = 0 then
            bd (f_M_here q σ20) fun r21 σ22 =>
            if r21 < 0 then
              some ((), σ22)
            else
              lt (wr σ22 q 11 ((σ22 q 11) + (1 : Int32))) fun σ23 =>
              some ((), σ23)
          else
            lt (wr σ20 q 13 (1 : Int32)) fun σ24 =>
            L_M_read_116 q (fun σ35 =>
              if (4 : Int32) < ((σ35 q 11) - (σ35 q 12)) then
                lt (wr σ35 q 14 (-1 : Int32)) fun σ36 =>
                some ((), σ36)
              else
                if ib (σ35 q 12) 160 then
                  if (σ35 (q + 3) (σ35 q 12).toNatClampNeg) = (48 : Int32) then
                    if ((σ35 q 11) - (σ35 q 12)) = (1 : Int32) then
                      lt (wr σ35 q 14 (σ35 q 14)) fun σ37 =>
                      some ((), σ37)
                    else
                      lt (wr σ35 q 14 (-1 : Int32)) fun σ38 =>
                      some ((), σ38)
                  else
                    lt (wr σ35 q 14 (σ35 q 14)) fun σ39 =>
                    some ((), σ39)
                else none) FU σ24
        else
          lt (wr σ16 q 13 (0 : Int32)) fun σ40 =>
          L_M_read_70 q (fun σ46 =>
            bd (f_M_here q σ46) fun r47 σ48 =>
            bd (f_M_in r47 (48 : Int32) (57 : Int32) σ48) fun r49 σ50 =>
            if r49 = 0 then
              bd (f_M_here q σ50) fun r51 σ52 =>
              if r51 < 0 then
                some ((), σ52)
              else
                lt (wr σ52 q 11 ((σ52 q 11) + (1 : Int32))) fun σ53 =>
                some ((), σ53)
            else
              lt (wr σ50 q 13 (1 : Int32)) fun σ54 =>
              L_M_read_116 q (fun σ55 =>
                if (4 : Int32) < ((σ55 q 11) - (σ55 q 12)) then
                  lt (wr σ55 q 14 (-1 : Int32)) fun σ56 =>
                  some ((), σ56)
                else
                  if ib (σ55 q 12) 160 then
                    if (σ55 (q + 3) (σ55 q 12).toNatClampNeg) = (48 : Int32) then
                      if ((σ55 q 11) - (σ55 q 12)) = (1 : Int32) then
                        lt (wr σ55 q 14 (σ55 q 14)) fun σ57 =>
                        some ((), σ57)
                      else
                        lt (wr σ55 q 14 (-1 : Int32)) fun σ58 =>
                        some ((), σ58)
                    else
                      lt (wr σ55 q 14 (σ55 q 14)) fun σ59 =>
                      some ((), σ59)
                  else none) FU σ54) FU σ40
      else
        lt (wr σ10 q 13 (3 : Int32)) fun σ60 =>
        lt (wr σ60 q 14 (0 : Int32)) fun σ61 =>
        bd (f_M_here q σ61) fun r62 σ63 =>
        bd (f_M_in r62 (97 : Int32) (122 : Int32) σ63) fun r64 σ65 =>
        if r64 = 0 then
          bd (f_M_here q σ65) fun r66 σ67 =>
          bd (f_M_in r66 (48 : Int32) (57 : Int32) σ67) fun r68 σ69 =>
          if r68 = 0 then
            bd (f_M_here q σ69) fun r70 σ71 =>
            if r70 < 0 then
              some ((), σ71)
            else
              lt (wr σ71 q 11 ((σ71 q 11) + (1 : Int32))) fun σ72 =>
              some ((), σ72)
          else
            lt (wr σ69 q 13 (1 : Int32)) fun σ73 =>
            L_M_read_116 q (fun σ74 =>
              if (4 : Int32) < ((σ74 q 11) - (σ74 q 12)) then
                lt (wr σ74 q 14 (-1 : Int32)) fun σ75 =>
                some ((), σ75)
              else
                if ib (σ74 q 12) 160 then
                  if (σ74 (q + 3) (σ74 q 12).toNatClampNeg) = (48 : Int32) then
                    if ((σ74 q 11) - (σ74 q 12)) = (1 : Int32) then
                      lt (wr σ74 q 14 (σ74 q 14)) fun σ76 =>
                      some ((), σ76)
                    else
                      lt (wr σ74 q 14 (-1 : Int32)) fun σ77 =>
                      some ((), σ77)
                  else
                    lt (wr σ74 q 14 (σ74 q 14)) fun σ78 =>
                    some ((), σ78)
                else none) FU σ73
        else
          lt (wr σ65 q 13 (0 : Int32)) fun σ79 =>
          L_M_read_70 q (fun σ80 =>
            bd (f_M_here q σ80) fun r81 σ82 =>
            bd (f_M_in r81 (48 : Int32) (57 : Int32) σ82) fun r83 σ84 =>
            if r83 = 0 then
              bd (f_M_here q σ84) fun r85 σ86 =>
              if r85 < 0 then
                some ((), σ86)
              else
                lt (wr σ86 q 11 ((σ86 q 11) + (1 : Int32))) fun σ87 =>
                some ((), σ87)
            else
              lt (wr σ84 q 13 (1 : Int32)) fun σ88 =>
              L_M_read_116 q (fun σ89 =>
                if (4 : Int32) < ((σ89 q 11) - (σ89 q 12)) then
                  lt (wr σ89 q 14 (-1 : Int32)) fun σ90 =>
                  some ((), σ90)
                else
                  if ib (σ89 q 12) 160 then
                    if (σ89 (q + 3) (σ89 q 12).toNatClampNeg) = (48 : Int32) then
                      if ((σ89 q 11) - (σ89 q 12)) = (1 : Int32) then
                        lt (wr σ89 q 14 (σ89 q 14)) fun σ91 =>
                        some ((), σ91)
                      else
                        lt (wr σ89 q 14 (-1 : Int32)) fun σ92 =>
                        some ((), σ92)
                    else
                      lt (wr σ89 q 14 (σ89 q 14)) fun σ93 =>
                      some ((), σ93)
                  else none) FU σ88) FU σ79) FU σ3
  else
    lt (wr σ2 q 12 (σ2 q 11)) fun σ94 =>
    bd (f_M_here q σ94) fun r95 σ96 =>
    if 0 ≤ r95 then
      lt (wr σ96 q 13 (2 : Int32)) fun σ97 =>
      lt (wr σ97 q 14 (0 : Int32)) fun σ98 =>
      bd (f_M_here q σ98) fun r99 σ100 =>
      bd (f_M_in r99 (97 : Int32) (122 : Int32) σ100) fun r101 σ102 =>
      if r101 = 0 then
        bd (f_M_here q σ102) fun r103 σ104 =>
        bd (f_M_in r103 (48 : Int32) (57 : Int32) σ104) fun r105 σ106 =>
        if r105 = 0 then
          bd (f_M_here q σ106) fun r107 σ108 =>
          if r107 < 0 then
            some ((), σ108)
          else
            lt (wr σ108 q 11 ((σ108 q 11) + (1 : Int32))) fun σ109 =>
            some ((), σ109)
        else
          lt (wr σ106 q 13 (1 : Int32)) fun σ110 =>
          L_M_read_116 q (fun σ111 =>
            if (4 : Int32) < ((σ111 q 11) - (σ111 q 12)) then
              lt (wr σ111 q 14 (-1 : Int32)) fun σ112 =>
              some ((), σ112)
            else
              if ib (σ111 q 12) 160 then
                if (σ111 (q + 3) (σ111 q 12).toNatClampNeg) = (48 : Int32) then
                  if ((σ111 q 11) - (σ111 q 12)) = (1 : Int32) then
                    lt (wr σ111 q 14 (σ111 q 14)) fun σ113 =>
                    some ((), σ113)
                  else
                    lt (wr σ111 q 14 (-1 : Int32)) fun σ114 =>
                    some ((), σ114)
                else
                  lt (wr σ111 q 14 (σ111 q 14)) fun σ115 =>
                  some ((), σ115)
              else none) FU σ110
      else
        lt (wr σ102 q 13 (0 : Int32)) fun σ116 =>
        L_M_read_70 q (fun σ117 =>
          bd (f_M_here q σ117) fun r118 σ119 =>
          bd (f_M_in r118 (48 : Int32) (57 : Int32) σ119) fun r120 σ121 =>
          if r120 = 0 then
            bd (f_M_here q σ121) fun r122 σ123 =>
            if r122 < 0 then
              some ((), σ123)
            else
              lt (wr σ123 q 11 ((σ123 q 11) + (1 : Int32))) fun σ124 =>
              some ((), σ124)
          else
            lt (wr σ121 q 13 (1 : Int32)) fun σ125 =>
            L_M_read_116 q (fun σ126 =>
              if (4 : Int32) < ((σ126 q 11) - (σ126 q 12)) then
                lt (wr σ126 q 14 (-1 : Int32)) fun σ127 =>
                some ((), σ127)
              else
                if ib (σ126 q 12) 160 then
                  if (σ126 (q + 3) (σ126 q 12).toNatClampNeg) = (48 : Int32) then
                    if ((σ126 q 11) - (σ126 q 12)) = (1 : Int32) then
                      lt (wr σ126 q 14 (σ126 q 14)) fun σ128 =>
                      some ((), σ128)
                    else
                      lt (wr σ126 q 14 (-1 : Int32)) fun σ129 =>
                      some ((), σ129)
                  else
                    lt (wr σ126 q 14 (σ126 q 14)) fun σ130 =>
                    some ((), σ130)
                else none) FU σ125) FU σ116
    else
      lt (wr σ96 q 13 (3 : Int32)) fun σ131 =>
      lt (wr σ131 q 14 (0 : Int32)) fun σ132 =>
      bd (f_M_here q σ132) fun r133 σ134 =>
      bd (f_M_in r133 (97 : Int32) (122 : Int32) σ134) fun r135 σ136 =>
      if r135 = 0 then
        bd (f_M_here q σ136) fun r137 σ138 =>
        bd (f_M_in r137 (48 : Int32) (57 : Int32) σ138) fun r139 σ140 =>
        if r139 = 0 then
          bd (f_M_here q σ140) fun r141 σ142 =>
          if r141 < 0 then
            some ((), σ142)
          else
            lt (wr σ142 q 11 ((σ142 q 11) + (1 : Int32))) fun σ143 =>
            some ((), σ143)
        else
          lt (wr σ140 q 13 (1 : Int32)) fun σ144 =>
          L_M_read_116 q (fun σ145 =>
            if (4 : Int32) < ((σ145 q 11) - (σ145 q 12)) then
              lt (wr σ145 q 14 (-1 : Int32)) fun σ146 =>
              some ((), σ146)
            else
              if ib (σ145 q 12) 160 then
                if (σ145 (q + 3) (σ145 q 12).toNatClampNeg) = (48 : Int32) then
                  if ((σ145 q 11) - (σ145 q 12)) = (1 : Int32) then
                    lt (wr σ145 q 14 (σ145 q 14)) fun σ147 =>
                    some ((), σ147)
                  else
                    lt (wr σ145 q 14 (-1 : Int32)) fun σ148 =>
                    some ((), σ148)
                else
                  lt (wr σ145 q 14 (σ145 q 14)) fun σ149 =>
                  some ((), σ149)
              else none) FU σ144
      else
        lt (wr σ136 q 13 (0 : Int32)) fun σ150 =>
        L_M_read_70 q (fun σ151 =>
          bd (f_M_here q σ151) fun r152 σ153 =>
          bd (f_M_in r152 (48 : Int32) (57 : Int32) σ153) fun r154 σ155 =>
          if r154 = 0 then
            bd (f_M_here q σ155) fun r156 σ157 =>
            if r156 < 0 then
              some ((), σ157)
            else
              lt (wr σ157 q 11 ((σ157 q 11) + (1 : Int32))) fun σ158 =>
              some ((), σ158)
          else
            lt (wr σ155 q 13 (1 : Int32)) fun σ159 =>
            L_M_read_116 q (fun σ160 =>
              if (4 : Int32) < ((σ160 q 11) - (σ160 q 12)) then
                lt (wr σ160 q 14 (-1 : Int32)) fun σ161 =>
                some ((), σ161)
              else
                if ib (σ160 q 12) 160 then
                  if (σ160 (q + 3) (σ160 q 12).toNatClampNeg) = (48 : Int32) then
                    if ((σ160 q 11) - (σ160 q 12)) = (1 : Int32) then
                      lt (wr σ160 q 14 (σ160 q 14)) fun σ162 =>
                      some ((), σ162)
                    else
                      lt (wr σ160 q 14 (-1 : Int32)) fun σ163 =>
                      some ((), σ163)
                  else
                    lt (wr σ160 q 14 (σ160 q 14)) fun σ164 =>
                    some ((), σ164)
                else none) FU σ159) FU σ150
set_option maxRecDepth 100000 in
set_option maxHeartbeats 4000000 in
theorem l_L_M_read_0 {X : CX} {p : Program} {l : Launch} {e : Env} {s : State} {m : MethodId} {args : Array Value} {below : List Frame} {meth : Method} {c : Code} (F : FR p s m args c prog_10_method_48_code 2 "SensorHubModel" X) (hlk : meth.locks = false) (hr : meth.sig.returnType = none) (r0 : Nat) (hr0 : ModelOK X r0) (k : Mem → Option (Unit × Mem)) (hk : ∀  (σ : Mem), G X p l e (rmD 1) s m args below meth c 2 0 0 (QI X below args s vU) 22 [(0, .ref (xa X r0))] [] σ (k σ)) : ∀ (n : Nat)  (σ : Mem), G X p l e (rmD 1) s m args below meth c 2 0 0 (QI X below args s vU) 0 [(0, .ref (xa X r0))] [] σ (L_M_read_0 r0 k n σ) := by
  intro n
  induction n with
  | zero => intros; exact g_no
  | succ n ih =>
    intro σ
    unfold L_M_read_0
    refine g_aload_n F d_M_read_0 0 rfl ?_
    refine g_callV F (dp := 0) (ci := 8) (As := []) (c_M_here l _ hr0 _) cv_8_153 hr0.1 rfl rfl rfl (Nat.le_of_ble_eq_true rfl) ⟨Nat.le_of_ble_eq_true rfl, Nat.le_of_ble_eq_true rfl⟩ ⟨Nat.zero_le _, Nat.zero_le _⟩ d_M_read_1 (fun r4 σ5 h4 => ?_)
    refine g_bipush F (v := 32) d_M_read_4 (by decide) ?_
    refine g_icmp_ne F (tgt := 22) d_M_read_6 (by decide) (fun h5 => ?_) (fun h6 => ?_)
    · refine g_aload_n F d_M_read_9 0 rfl ?_
      refine g_dup F d_M_read_10 rfl ?_
      refine g_getI F fs_8_150 hr0.1 rfl d_M_read_11 ?_
      refine g_iconst F (v := 1) d_M_read_14 (by decide) ?_
      refine g_iadd F d_M_read_15 ?_
      refine g_putI F fw_8_150 hr0.1 rfl d_M_read_16 ?_
      refine g_ltM (fun σ6 _ => ?_)
      refine g_goto F (tgt := 0) d_M_read_19 (by decide) ?_
      exact ih  _
    exact hk  _
set_option maxRecDepth 100000 in
set_option maxHeartbeats 4000000 in
theorem l_L_M_read_116 {X : CX} {p : Program} {l : Launch} {e : Env} {s : State} {m : MethodId} {args : Array Value} {below : List Frame} {meth : Method} {c : Code} (F : FR p s m args c prog_10_method_48_code 2 "SensorHubModel" X) (hlk : meth.locks = false) (hr : meth.sig.returnType = none) (r0 : Nat) (hr0 : ModelOK X r0) (k : Mem → Option (Unit × Mem)) (hk : ∀  (σ : Mem), G X p l e (rmD 1) s m args below meth c 2 0 0 (QI X below args s vU) 179 [(0, .ref (xa X r0))] [] σ (k σ)) : ∀ (n : Nat)  (σ : Mem), G X p l e (rmD 1) s m args below meth c 2 0 0 (QI X below args s vU) 116 [(0, .ref (xa X r0))] [] σ (L_M_read_116 r0 k n σ) := by
  intro n
  induction n with
  | zero => intros; exact g_no
  | succ n ih =>
    intro σ
    unfold L_M_read_116
    refine g_aload_n F d_M_read_116 0 rfl ?_
    refine g_callV F (dp := 0) (ci := 8) (As := []) (c_M_here l _ hr0 _) cv_8_153 hr0.1 rfl rfl rfl (Nat.le_of_ble_eq_true rfl) ⟨Nat.le_of_ble_eq_true rfl, Nat.le_of_ble_eq_true rfl⟩ ⟨Nat.zero_le _, Nat.zero_le _⟩ d_M_read_117 (fun r25 σ26 h21 => ?_)
    refine g_bipush F (v := 48) d_M_read_120 (by decide) ?_
    refine g_bipush F (v := 57) d_M_read_122 (by decide) ?_
    refine g_callS F (dp := 0) (As := [.int r25, .int (48 : Int32), .int (57 : Int32)]) (c_M_in l _ _ _ _) cs_8_42 rfl rfl (Nat.le_of_ble_eq_true rfl) ⟨Nat.le_of_ble_eq_true rfl, Nat.le_of_ble_eq_true rfl⟩ ⟨Nat.zero_le _, Nat.zero_le _⟩ d_M_read_124 (fun r27 σ28 h22 => ?_)
    refine g_if_eq F (tgt := 179) d_M_read_127 (by decide) (fun h23 => ?_) (fun h24 => ?_)
    · exact hk  _
    refine g_aload_n F d_M_read_130 0 rfl ?_
    refine g_aload_n F d_M_read_131 0 rfl ?_
    refine g_getI F fs_8_150 hr0.1 rfl d_M_read_132 ?_
    refine g_aload_n F d_M_read_135 0 rfl ?_
    refine g_getI F fs_8_156 hr0.1 rfl d_M_read_136 ?_
    refine g_isub F d_M_read_139 ?_
    refine g_iconst F (v := 4) d_M_read_140 (by decide) ?_
    refine g_icmp_ge F (tgt := 162) d_M_read_141 (by decide) (fun h25 => ?_) (fun h26 => ?_)
    · refine g_iconst F (v := (-1)) d_M_read_162 (by decide) ?_
      refine g_putI F fw_8_162 hr0.1 rfl d_M_read_163 ?_
      refine g_ltM (fun σ29 _ => ?_)
      refine g_aload_n F d_M_read_166 0 rfl ?_
      refine g_dup F d_M_read_167 rfl ?_
      refine g_getI F fs_8_150 hr0.1 rfl d_M_read_168 ?_
      refine g_iconst F (v := 1) d_M_read_171 (by decide) ?_
      refine g_iadd F d_M_read_172 ?_
      refine g_putI F fw_8_150 hr0.1 rfl d_M_read_173 ?_
      refine g_ltM (fun σ30 _ => ?_)
      refine g_goto F (tgt := 116) d_M_read_176 (by decide) ?_
      exact ih  _
    refine g_bipush F (v := 10) d_M_read_144 (by decide) ?_
    refine g_aload_n F d_M_read_146 0 rfl ?_
    refine g_getI F fs_8_162 hr0.1 rfl d_M_read_147 ?_
    refine g_imul F d_M_read_150 ?_
    refine g_aload_n F d_M_read_151 0 rfl ?_
    refine g_callV F (dp := 0) (ci := 8) (As := []) (c_M_here l _ hr0 _) cv_8_153 hr0.1 rfl rfl rfl (Nat.le_of_ble_eq_true rfl) ⟨Nat.le_of_ble_eq_true rfl, Nat.le_of_ble_eq_true rfl⟩ ⟨Nat.zero_le _, Nat.zero_le _⟩ d_M_read_152 (fun r31 σ32 h27 => ?_)
    refine g_iadd F d_M_read_155 ?_
    refine g_bipush F (v := 48) d_M_read_156 (by decide) ?_
    refine g_isub F d_M_read_158 ?_
    refine g_goto F (tgt := 163) d_M_read_159 (by decide) ?_
    refine g_putI F fw_8_162 hr0.1 rfl d_M_read_163 ?_
    refine g_ltM (fun σ33 _ => ?_)
    refine g_aload_n F d_M_read_166 0 rfl ?_
    refine g_dup F d_M_read_167 rfl ?_
    refine g_getI F fs_8_150 hr0.1 rfl d_M_read_168 ?_
    refine g_iconst F (v := 1) d_M_read_171 (by decide) ?_
    refine g_iadd F d_M_read_172 ?_
    refine g_putI F fw_8_150 hr0.1 rfl d_M_read_173 ?_
    refine g_ltM (fun σ34 _ => ?_)
    refine g_goto F (tgt := 116) d_M_read_176 (by decide) ?_
    exact ih  _
set_option maxRecDepth 100000 in
set_option maxHeartbeats 4000000 in
theorem l_L_M_read_70 {X : CX} {p : Program} {l : Launch} {e : Env} {s : State} {m : MethodId} {args : Array Value} {below : List Frame} {meth : Method} {c : Code} (F : FR p s m args c prog_10_method_48_code 2 "SensorHubModel" X) (hlk : meth.locks = false) (hr : meth.sig.returnType = none) (r0 : Nat) (hr0 : ModelOK X r0) (k : Mem → Option (Unit × Mem)) (hk : ∀  (σ : Mem), G X p l e (rmD 1) s m args below meth c 2 0 0 (QI X below args s vU) 97 [(0, .ref (xa X r0))] [] σ (k σ)) : ∀ (n : Nat)  (σ : Mem), G X p l e (rmD 1) s m args below meth c 2 0 0 (QI X below args s vU) 70 [(0, .ref (xa X r0))] [] σ (L_M_read_70 r0 k n σ) := by
  intro n
  induction n with
  | zero => intros; exact g_no
  | succ n ih =>
    intro σ
    unfold L_M_read_70
    refine g_aload_n F d_M_read_70 0 rfl ?_
    refine g_callV F (dp := 0) (ci := 8) (As := []) (c_M_here l _ hr0 _) cv_8_153 hr0.1 rfl rfl rfl (Nat.le_of_ble_eq_true rfl) ⟨Nat.le_of_ble_eq_true rfl, Nat.le_of_ble_eq_true rfl⟩ ⟨Nat.zero_le _, Nat.zero_le _⟩ d_M_read_71 (fun r41 σ42 h34 => ?_)
    refine g_bipush F (v := 97) d_M_read_74 (by decide) ?_
    refine g_bipush F (v := 122) d_M_read_76 (by decide) ?_
    refine g_callS F (dp := 0) (As := [.int r41, .int (97 : Int32), .int (122 : Int32)]) (c_M_in l _ _ _ _) cs_8_42 rfl rfl (Nat.le_of_ble_eq_true rfl) ⟨Nat.le_of_ble_eq_true rfl, Nat.le_of_ble_eq_true rfl⟩ ⟨Nat.zero_le _, Nat.zero_le _⟩ d_M_read_78 (fun r43 σ44 h35 => ?_)
    refine g_if_eq F (tgt := 261) d_M_read_81 (by decide) (fun h36 => ?_) (fun h37 => ?_)
    · exact g_vret F hlk hr d_M_read_261
    refine g_aload_n F d_M_read_84 0 rfl ?_
    refine g_dup F d_M_read_85 rfl ?_
    refine g_getI F fs_8_150 hr0.1 rfl d_M_read_86 ?_
    refine g_iconst F (v := 1) d_M_read_89 (by decide) ?_
    refine g_iadd F d_M_read_90 ?_
    refine g_putI F fw_8_150 hr0.1 rfl d_M_read_91 ?_
    refine g_ltM (fun σ45 _ => ?_)
    refine g_goto F (tgt := 70) d_M_read_94 (by decide) ?_
    exact ih  _
set_option maxRecDepth 100000 in
set_option maxHeartbeats 4000000 in
theorem c_M_read {X : CX} (l : Launch) (q : Nat) (hq : ModelOK X q) (σ : Mem) : CT X l y_M_read prog_10_method_48_code 2 none 1 vU [.ref (xa X q)] σ (f_M_read q σ) := by
  refine CT_of (by decide +kernel) (Nat.le_of_ble_eq_true rfl) ?_
  intro p e s m args below meth c F hlk hr
  have F : FR p s m args c prog_10_method_48_code 2 "SensorHubModel" X := F
  show G X p l e (rmD 1) s m args below meth c 2 0 0 (QI X below args s vU) 0 [(0, .ref (xa X q))] [] σ _
  unfold f_M_read
  refine g_aload_n F d_M_read_0 0 rfl ?_
  refine g_callV F (dp := 0) (ci := 8) (As := []) (c_M_here l _ hq _) cv_8_153 hq.1 rfl rfl rfl (Nat.le_of_ble_eq_true rfl) ⟨Nat.le_of_ble_eq_true rfl, Nat.le_of_ble_eq_true rfl⟩ ⟨Nat.zero_le _, Nat.zero_le _⟩ d_M_read_1 (fun r1 σ2 h1 => ?_)
  refine g_bipush F (v := 32) d_M_read_4 (by decide) ?_
  refine g_icmp_ne F (tgt := 22) d_M_read_6 (by decide) (fun h2 => ?_) (fun h3 => ?_)
  · refine g_aload_n F d_M_read_9 0 rfl ?_
    refine g_dup F d_M_read_10 rfl ?_
    refine g_getI F fs_8_150 hq.1 rfl d_M_read_11 ?_
    refine g_iconst F (v := 1) d_M_read_14 (by decide) ?_
    refine g_iadd F d_M_read_15 ?_
    refine g_putI F fw_8_150 hq.1 rfl d_M_read_16 ?_
    refine g_ltM (fun σ3 _ => ?_)
    refine g_goto F (tgt := 0) d_M_read_19 (by decide) ?_
    refine g_sub [0] rfl (l_L_M_read_0 F hlk hr _ hq _ (fun σ7 => ?_) FU _)
    refine g_aload_n F d_M_read_22 0 rfl ?_
    refine g_aload_n F d_M_read_23 0 rfl ?_
    refine g_getI F fs_8_150 hq.1 rfl d_M_read_24 ?_
    refine g_putI F fw_8_156 hq.1 rfl d_M_read_27 ?_
    refine g_ltM (fun σ8 _ => ?_)
    refine g_aload_n F d_M_read_30 0 rfl ?_
    refine g_aload_n F d_M_read_31 0 rfl ?_
    refine g_callV F (dp := 0) (ci := 8) (As := []) (c_M_here l _ hq _) cv_8_153 hq.1 rfl rfl rfl (Nat.le_of_ble_eq_true rfl) ⟨Nat.le_of_ble_eq_true rfl, Nat.le_of_ble_eq_true rfl⟩ ⟨Nat.zero_le _, Nat.zero_le _⟩ d_M_read_32 (fun r9 σ10 h7 => ?_)
    refine g_if_ge F (tgt := 42) d_M_read_35 (by decide) (fun h8 => ?_) (fun h9 => ?_)
    · refine g_iconst F (v := 2) d_M_read_42 (by decide) ?_
      refine g_putI F fw_8_159 hq.1 rfl d_M_read_43 ?_
      refine g_ltM (fun σ11 _ => ?_)
      refine g_aload_n F d_M_read_46 0 rfl ?_
      refine g_iconst F (v := 0) d_M_read_47 (by decide) ?_
      refine g_putI F fw_8_162 hq.1 rfl d_M_read_48 ?_
      refine g_ltM (fun σ12 _ => ?_)
      refine g_aload_n F d_M_read_51 0 rfl ?_
      refine g_callV F (dp := 0) (ci := 8) (As := []) (c_M_here l _ hq _) cv_8_153 hq.1 rfl rfl rfl (Nat.le_of_ble_eq_true rfl) ⟨Nat.le_of_ble_eq_true rfl, Nat.le_of_ble_eq_true rfl⟩ ⟨Nat.zero_le _, Nat.zero_le _⟩ d_M_read_52 (fun r13 σ14 h10 => ?_)
      refine g_bipush F (v := 97) d_M_read_55 (by decide) ?_
      refine g_bipush F (v := 122) d_M_read_57 (by decide) ?_
      refine g_callS F (dp := 0) (As := [.int r13, .int (97 : Int32), .int (122 : Int32)]) (c_M_in l _ _ _ _) cs_8_42 rfl rfl (Nat.le_of_ble_eq_true rfl) ⟨Nat.le_of_ble_eq_true rfl, Nat.le_of_ble_eq_true rfl⟩ ⟨Nat.zero_le _, Nat.zero_le _⟩ d_M_read_59 (fun r15 σ16 h11 => ?_)
      refine g_if_eq F (tgt := 97) d_M_read_62 (by decide) (fun h12 => ?_) (fun h13 => ?_)
      · refine g_aload_n F d_M_read_97 0 rfl ?_
        refine g_callV F (dp := 0) (ci := 8) (As := []) (c_M_here l _ hq _) cv_8_153 hq.1 rfl rfl rfl (Nat.le_of_ble_eq_true rfl) ⟨Nat.le_of_ble_eq_true rfl, Nat.le_of_ble_eq_true rfl⟩ ⟨Nat.zero_le _, Nat.zero_le _⟩ d_M_read_98 (fun r17 σ18 h14 => ?_)
        refine g_bipush F (v := 48) d_M_read_101 (by decide) ?_
        refine g_bipush F (v := 57) d_M_read_103 (by decide) ?_
        refine g_callS F (dp := 0) (As := [.int r17, .int (48 : Int32), .int (57 : Int32)]) (c_M_in l _ _ _ _) cs_8_42 rfl rfl (Nat.le_of_ble_eq_true rfl) ⟨Nat.le_of_ble_eq_true rfl, Nat.le_of_ble_eq_true rfl⟩ ⟨Nat.zero_le _, Nat.zero_le _⟩ d_M_read_105 (fun r19 σ20 h15 => ?_)
        refine g_if_eq F (tgt := 244) d_M_read_108 (by decide) (fun h16 => ?_) (fun h17 => ?_)
        · refine g_aload_n F d_M_read_244 0 rfl ?_
          refine g_callV F (dp := 0) (ci := 8) (As := []) (c_M_here l _ hq _) cv_8_153 hq.1 rfl rfl rfl (Nat.le_of_ble_eq_true rfl) ⟨Nat.le_of_ble_eq_true rfl, Nat.le_of_ble_eq_true rfl⟩ ⟨Nat.zero_le _, Nat.zero_le _⟩ d_M_read_245 (fun r21 σ22 h18 => ?_)
          refine g_if_lt F (tgt := 261) d_M_read_248 (by decide) (fun h19 => ?_) (fun h20 => ?_)
          · exact g_vret F hlk hr d_M_read_261
          refine g_aload_n F d_M_read_251 0 rfl ?_
          refine g_dup F d_M_read_252 rfl ?_
          refine g_getI F fs_8_150 hq.1 rfl d_M_read_253 ?_
          refine g_iconst F (v := 1) d_M_read_256 (by decide) ?_
          refine g_iadd F d_M_read_257 ?_
          refine g_putI F fw_8_150 hq.1 rfl d_M_read_258 ?_
          refine g_ltM (fun σ23 _ => ?_)
          exact g_vret F hlk hr d_M_read_261
        refine g_aload_n F d_M_read_111 0 rfl ?_
        refine g_iconst F (v := 1) d_M_read_112 (by decide) ?_
        refine g_putI F fw_8_159 hq.1 rfl d_M_read_113 ?_
        refine g_ltM (fun σ24 _ => ?_)
        refine g_sub [0] rfl (l_L_M_read_116 F hlk hr _ hq _ (fun σ35 => ?_) FU _)
        refine g_aload_n F d_M_read_179 0 rfl ?_
        refine g_getI F fs_8_150 hq.1 rfl d_M_read_180 ?_
        refine g_aload_n F d_M_read_183 0 rfl ?_
        refine g_getI F fs_8_156 hq.1 rfl d_M_read_184 ?_
        refine g_isub F d_M_read_187 ?_
        refine g_iconst F (v := 4) d_M_read_188 (by decide) ?_
        refine g_icmp_gt F (tgt := 223) d_M_read_189 (by decide) (fun h28 => ?_) (fun h29 => ?_)
        · refine g_iconst F (v := 0) d_M_read_223 (by decide) ?_
          refine g_istore_n F (ls' := [(1, .int (0 : Int32)), (0, .ref (xa X q))]) d_M_read_224 (by decide) rfl ?_
          refine g_aload_n F d_M_read_225 1 rfl ?_
          refine g_iload_n F d_M_read_226 0 rfl ?_
          refine g_pt (q := (0 : Int32) = 0) (by decide) (g_if_eq F (tgt := 237) d_M_read_227 (by decide) (fun _ => ?_) (fun _ => g_no))
          refine g_iconst F (v := (-1)) d_M_read_237 (by decide) ?_
          refine g_putI F fw_8_162 hq.1 rfl d_M_read_238 ?_
          refine g_ltM (fun σ36 _ => ?_)
          refine g_goto F (tgt := 261) d_M_read_241 (by decide) ?_
          exact g_vret F hlk hr d_M_read_261
        refine g_aload_n F d_M_read_192 0 rfl ?_
        refine g_getR F fs_8_16 hq.1 rfl d_M_read_193 ?_
        refine g_aload_n F d_M_read_196 0 rfl ?_
        refine g_getI F fs_8_156 hq.1 rfl d_M_read_197 ?_
        refine g_iald F (n := 160) hq.2.2.2.1 d_M_read_200 ?_
        refine g_bipush F (v := 48) d_M_read_201 (by decide) ?_
        refine g_icmp_ne F (tgt := 219) d_M_read_203 (by decide) (fun h30 => ?_) (fun h31 => ?_)
        · refine g_aload_n F d_M_read_206 0 rfl ?_
          refine g_getI F fs_8_150 hq.1 rfl d_M_read_207 ?_
          refine g_aload_n F d_M_read_210 0 rfl ?_
          refine g_getI F fs_8_156 hq.1 rfl d_M_read_211 ?_
          refine g_isub F d_M_read_214 ?_
          refine g_iconst F (v := 1) d_M_read_215 (by decide) ?_
          refine g_icmp_ne F (tgt := 223) d_M_read_216 (by decide) (fun h32 => ?_) (fun h33 => ?_)
          · refine g_iconst F (v := 1) d_M_read_219 (by decide) ?_
            refine g_goto F (tgt := 224) d_M_read_220 (by decide) ?_
            refine g_istore_n F (ls' := [(1, .int (1 : Int32)), (0, .ref (xa X q))]) d_M_read_224 (by decide) rfl ?_
            refine g_aload_n F d_M_read_225 1 rfl ?_
            refine g_iload_n F d_M_read_226 0 rfl ?_
            refine g_pf (q := (1 : Int32) = 0) (by decide) (g_if_eq F (tgt := 237) d_M_read_227 (by decide) (fun _ => g_no) (fun _ => ?_))
            refine g_aload_n F d_M_read_230 1 rfl ?_
            refine g_getI F fs_8_162 hq.1 rfl d_M_read_231 ?_
            refine g_goto F (tgt := 238) d_M_read_234 (by decide) ?_
            refine g_putI F fw_8_162 hq.1 rfl d_M_read_238 ?_
            refine g_ltM (fun σ37 _ => ?_)
            refine g_goto F (tgt := 261) d_M_read_241 (by decide) ?_
            exact g_vret F hlk hr d_M_read_261
          refine g_iconst F (v := 0) d_M_read_223 (by decide) ?_
          refine g_istore_n F (ls' := [(1, .int (0 : Int32)), (0, .ref (xa X q))]) d_M_read_224 (by decide) rfl ?_
          refine g_aload_n F d_M_read_225 1 rfl ?_
          refine g_iload_n F d_M_read_226 0 rfl ?_
          refine g_pt (q := (0 : Int32) = 0) (by decide) (g_if_eq F (tgt := 237) d_M_read_227 (by decide) (fun _ => ?_) (fun _ => g_no))
          refine g_iconst F (v := (-1)) d_M_read_237 (by decide) ?_
          refine g_putI F fw_8_162 hq.1 rfl d_M_read_238 ?_
          refine g_ltM (fun σ38 _ => ?_)
          refine g_goto F (tgt := 261) d_M_read_241 (by decide) ?_
          exact g_vret F hlk hr d_M_read_261
        refine g_iconst F (v := 1) d_M_read_219 (by decide) ?_
        refine g_goto F (tgt := 224) d_M_read_220 (by decide) ?_
        refine g_istore_n F (ls' := [(1, .int (1 : Int32)), (0, .ref (xa X q))]) d_M_read_224 (by decide) rfl ?_
        refine g_aload_n F d_M_read_225 1 rfl ?_
        refine g_iload_n F d_M_read_226 0 rfl ?_
        refine g_pf (q := (1 : Int32) = 0) (by decide) (g_if_eq F (tgt := 237) d_M_read_227 (by decide) (fun _ => g_no) (fun _ => ?_))
        refine g_aload_n F d_M_read_230 1 rfl ?_
        refine g_getI F fs_8_162 hq.1 rfl d_M_read_231 ?_
        refine g_goto F (tgt := 238) d_M_read_234 (by decide) ?_
        refine g_putI F fw_8_162 hq.1 rfl d_M_read_238 ?_
        refine g_ltM (fun σ39 _ => ?_)
        refine g_goto F (tgt := 261) d_M_read_241 (by decide) ?_
        exact g_vret F hlk hr d_M_read_261
      refine g_aload_n F d_M_read_65 0 rfl ?_
      refine g_iconst F (v := 0) d_M_read_66 (by decide) ?_
      refine g_putI F fw_8_159 hq.1 rfl d_M_read_67 ?_
      refine g_ltM (fun σ40 _ => ?_)
      refine g_sub [0] rfl (l_L_M_read_70 F hlk hr _ hq _ (fun σ46 => ?_) FU _)
      refine g_aload_n F d_M_read_97 0 rfl ?_
      refine g_callV F (dp := 0) (ci := 8) (As := []) (c_M_here l _ hq _) cv_8_153 hq.1 rfl rfl rfl (Nat.le_of_ble_eq_true rfl) ⟨Nat.le_of_ble_eq_true rfl, Nat.le_of_ble_eq_true rfl⟩ ⟨Nat.zero_le _, Nat.zero_le _⟩ d_M_read_98 (fun r47 σ48 h38 => ?_)
      refine g_bipush F (v := 48) d_M_read_101 (by decide) ?_
      refine g_bipush F (v := 57) d_M_read_103 (by decide) ?_
      refine g_callS F (dp := 0) (As := [.int r47, .int (48 : Int32), .int (57 : Int32)]) (c_M_in l _ _ _ _) cs_8_42 rfl rfl (Nat.le_of_ble_eq_true rfl) ⟨Nat.le_of_ble_eq_true rfl, Nat.le_of_ble_eq_true rfl⟩ ⟨Nat.zero_le _, Nat.zero_le _⟩ d_M_read_105 (fun r49 σ50 h39 => ?_)
      refine g_if_eq F (tgt := 244) d_M_read_108 (by decide) (fun h40 => ?_) (fun h41 => ?_)
      · refine g_aload_n F d_M_read_244 0 rfl ?_
        refine g_callV F (dp := 0) (ci := 8) (As := []) (c_M_here l _ hq _) cv_8_153 hq.1 rfl rfl rfl (Nat.le_of_ble_eq_true rfl) ⟨Nat.le_of_ble_eq_true rfl, Nat.le_of_ble_eq_true rfl⟩ ⟨Nat.zero_le _, Nat.zero_le _⟩ d_M_read_245 (fun r51 σ52 h42 => ?_)
        refine g_if_lt F (tgt := 261) d_M_read_248 (by decide) (fun h43 => ?_) (fun h44 => ?_)
        · exact g_vret F hlk hr d_M_read_261
        refine g_aload_n F d_M_read_251 0 rfl ?_
        refine g_dup F d_M_read_252 rfl ?_
        refine g_getI F fs_8_150 hq.1 rfl d_M_read_253 ?_
        refine g_iconst F (v := 1) d_M_read_256 (by decide) ?_
        refine g_iadd F d_M_read_257 ?_
        refine g_putI F fw_8_150 hq.1 rfl d_M_read_258 ?_
        refine g_ltM (fun σ53 _ => ?_)
        exact g_vret F hlk hr d_M_read_261
      refine g_aload_n F d_M_read_111 0 rfl ?_
      refine g_iconst F (v := 1) d_M_read_112 (by decide) ?_
      refine g_putI F fw_8_159 hq.1 rfl d_M_read_113 ?_
      refine g_ltM (fun σ54 _ => ?_)
      refine g_sub [0] rfl (l_L_M_read_116 F hlk hr _ hq _ (fun σ55 => ?_) FU _)
      refine g_aload_n F d_M_read_179 0 rfl ?_
      refine g_getI F fs_8_150 hq.1 rfl d_M_read_180 ?_
      refine g_aload_n F d_M_read_183 0 rfl ?_
      refine g_getI F fs_8_156 hq.1 rfl d_M_read_184 ?_
      refine g_isub F d_M_read_187 ?_
      refine g_iconst F (v := 4) d_M_read_188 (by decide) ?_
      refine g_icmp_gt F (tgt := 223) d_M_read_189 (by decide) (fun h45 => ?_) (fun h46 => ?_)
      · refine g_iconst F (v := 0) d_M_read_223 (by decide) ?_
        refine g_istore_n F (ls' := [(1, .int (0 : Int32)), (0, .ref (xa X q))]) d_M_read_224 (by decide) rfl ?_
        refine g_aload_n F d_M_read_225 1 rfl ?_
        refine g_iload_n F d_M_read_226 0 rfl ?_
        refine g_pt (q := (0 : Int32) = 0) (by decide) (g_if_eq F (tgt := 237) d_M_read_227 (by decide) (fun _ => ?_) (fun _ => g_no))
        refine g_iconst F (v := (-1)) d_M_read_237 (by decide) ?_
        refine g_putI F fw_8_162 hq.1 rfl d_M_read_238 ?_
        refine g_ltM (fun σ56 _ => ?_)
        refine g_goto F (tgt := 261) d_M_read_241 (by decide) ?_
        exact g_vret F hlk hr d_M_read_261
      refine g_aload_n F d_M_read_192 0 rfl ?_
      refine g_getR F fs_8_16 hq.1 rfl d_M_read_193 ?_
      refine g_aload_n F d_M_read_196 0 rfl ?_
      refine g_getI F fs_8_156 hq.1 rfl d_M_read_197 ?_
      refine g_iald F (n := 160) hq.2.2.2.1 d_M_read_200 ?_
      refine g_bipush F (v := 48) d_M_read_201 (by decide) ?_
      refine g_icmp_ne F (tgt := 219) d_M_read_203 (by decide) (fun h47 => ?_) (fun h48 => ?_)
      · refine g_aload_n F d_M_read_206 0 rfl ?_
        refine g_getI F fs_8_150 hq.1 rfl d_M_read_207 ?_
        refine g_aload_n F d_M_read_210 0 rfl ?_
        refine g_getI F fs_8_156 hq.1 rfl d_M_read_211 ?_
        refine g_isub F d_M_read_214 ?_
        refine g_iconst F (v := 1) d_M_read_215 (by decide) ?_
        refine g_icmp_ne F (tgt := 223) d_M_read_216 (by decide) (fun h49 => ?_) (fun h50 => ?_)
        · refine g_iconst F (v := 1) d_M_read_219 (by decide) ?_
          refine g_goto F (tgt := 224) d_M_read_220 (by decide) ?_
          refine g_istore_n F (ls' := [(1, .int (1 : Int32)), (0, .ref (xa X q))]) d_M_read_224 (by decide) rfl ?_
          refine g_aload_n F d_M_read_225 1 rfl ?_
          refine g_iload_n F d_M_read_226 0 rfl ?_
          refine g_pf (q := (1 : Int32) = 0) (by decide) (g_if_eq F (tgt := 237) d_M_read_227 (by decide) (fun _ => g_no) (fun _ => ?_))
          refine g_aload_n F d_M_read_230 1 rfl ?_
          refine g_getI F fs_8_162 hq.1 rfl d_M_read_231 ?_
          refine g_goto F (tgt := 238) d_M_read_234 (by decide) ?_
          refine g_putI F fw_8_162 hq.1 rfl d_M_read_238 ?_
          refine g_ltM (fun σ57 _ => ?_)
          refine g_goto F (tgt := 261) d_M_read_241 (by decide) ?_
          exact g_vret F hlk hr d_M_read_261
        refine g_iconst F (v := 0) d_M_read_223 (by decide) ?_
        refine g_istore_n F (ls' := [(1, .int (0 : Int32)), (0, .ref (xa X q))]) d_M_read_224 (by decide) rfl ?_
        refine g_aload_n F d_M_read_225 1 rfl ?_
        refine g_iload_n F d_M_read_226 0 rfl ?_
        refine g_pt (q := (0 : Int32) = 0) (by decide) (g_if_eq F (tgt := 237) d_M_read_227 (by decide) (fun _ => ?_) (fun _ => g_no))
        refine g_iconst F (v := (-1)) d_M_read_237 (by decide) ?_
        refine g_putI F fw_8_162 hq.1 rfl d_M_read_238 ?_
        refine g_ltM (fun σ58 _ => ?_)
        refine g_goto F (tgt := 261) d_M_read_241 (by decide) ?_
        exact g_vret F hlk hr d_M_read_261
      refine g_iconst F (v := 1) d_M_read_219 (by decide) ?_
      refine g_goto F (tgt := 224) d_M_read_220 (by decide) ?_
      refine g_istore_n F (ls' := [(1, .int (1 : Int32)), (0, .ref (xa X q))]) d_M_read_224 (by decide) rfl ?_
      refine g_aload_n F d_M_read_225 1 rfl ?_
      refine g_iload_n F d_M_read_226 0 rfl ?_
      refine g_pf (q := (1 : Int32) = 0) (by decide) (g_if_eq F (tgt := 237) d_M_read_227 (by decide) (fun _ => g_no) (fun _ => ?_))
      refine g_aload_n F d_M_read_230 1 rfl ?_
      refine g_getI F fs_8_162 hq.1 rfl d_M_read_231 ?_
      refine g_goto F (tgt := 238) d_M_read_234 (by decide) ?_
      refine g_putI F fw_8_162 hq.1 rfl d_M_read_238 ?_
      refine g_ltM (fun σ59 _ => ?_)
      refine g_goto F (tgt := 261) d_M_read_241 (by decide) ?_
      exact g_vret F hlk hr d_M_read_261
    refine g_iconst F (v := 3) d_M_read_38 (by decide) ?_
    refine g_goto F (tgt := 43) d_M_read_39 (by decide) ?_
    refine g_putI F fw_8_159 hq.1 rfl d_M_read_43 ?_
    refine g_ltM (fun σ60 _ => ?_)
    refine g_aload_n F d_M_read_46 0 rfl ?_
    refine g_iconst F (v := 0) d_M_read_47 (by decide) ?_
    refine g_putI F fw_8_162 hq.1 rfl d_M_read_48 ?_
    refine g_ltM (fun σ61 _ => ?_)
    refine g_aload_n F d_M_read_51 0 rfl ?_
    refine g_callV F (dp := 0) (ci := 8) (As := []) (c_M_here l _ hq _) cv_8_153 hq.1 rfl rfl rfl (Nat.le_of_ble_eq_true rfl) ⟨Nat.le_of_ble_eq_true rfl, Nat.le_of_ble_eq_true rfl⟩ ⟨Nat.zero_le _, Nat.zero_le _⟩ d_M_read_52 (fun r62 σ63 h51 => ?_)
    refine g_bipush F (v := 97) d_M_read_55 (by decide) ?_
    refine g_bipush F (v := 122) d_M_read_57 (by decide) ?_
    refine g_callS F (dp := 0) (As := [.int r62, .int (97 : Int32), .int (122 : Int32)]) (c_M_in l _ _ _ _) cs_8_42 rfl rfl (Nat.le_of_ble_eq_true rfl) ⟨Nat.le_of_ble_eq_true rfl, Nat.le_of_ble_eq_true rfl⟩ ⟨Nat.zero_le _, Nat.zero_le _⟩ d_M_read_59 (fun r64 σ65 h52 => ?_)
    refine g_if_eq F (tgt := 97) d_M_read_62 (by decide) (fun h53 => ?_) (fun h54 => ?_)
    · refine g_aload_n F d_M_read_97 0 rfl ?_
      refine g_callV F (dp := 0) (ci := 8) (As := []) (c_M_here l _ hq _) cv_8_153 hq.1 rfl rfl rfl (Nat.le_of_ble_eq_true rfl) ⟨Nat.le_of_ble_eq_true rfl, Nat.le_of_ble_eq_true rfl⟩ ⟨Nat.zero_le _, Nat.zero_le _⟩ d_M_read_98 (fun r66 σ67 h55 => ?_)
      refine g_bipush F (v := 48) d_M_read_101 (by decide) ?_
      refine g_bipush F (v := 57) d_M_read_103 (by decide) ?_
      refine g_callS F (dp := 0) (As := [.int r66, .int (48 : Int32), .int (57 : Int32)]) (c_M_in l _ _ _ _) cs_8_42 rfl rfl (Nat.le_of_ble_eq_true rfl) ⟨Nat.le_of_ble_eq_true rfl, Nat.le_of_ble_eq_true rfl⟩ ⟨Nat.zero_le _, Nat.zero_le _⟩ d_M_read_105 (fun r68 σ69 h56 => ?_)
      refine g_if_eq F (tgt := 244) d_M_read_108 (by decide) (fun h57 => ?_) (fun h58 => ?_)
      · refine g_aload_n F d_M_read_244 0 rfl ?_
        refine g_callV F (dp := 0) (ci := 8) (As := []) (c_M_here l _ hq _) cv_8_153 hq.1 rfl rfl rfl (Nat.le_of_ble_eq_true rfl) ⟨Nat.le_of_ble_eq_true rfl, Nat.le_of_ble_eq_true rfl⟩ ⟨Nat.zero_le _, Nat.zero_le _⟩ d_M_read_245 (fun r70 σ71 h59 => ?_)
        refine g_if_lt F (tgt := 261) d_M_read_248 (by decide) (fun h60 => ?_) (fun h61 => ?_)
        · exact g_vret F hlk hr d_M_read_261
        refine g_aload_n F d_M_read_251 0 rfl ?_
        refine g_dup F d_M_read_252 rfl ?_
        refine g_getI F fs_8_150 hq.1 rfl d_M_read_253 ?_
        refine g_iconst F (v := 1) d_M_read_256 (by decide) ?_
        refine g_iadd F d_M_read_257 ?_
        refine g_putI F fw_8_150 hq.1 rfl d_M_read_258 ?_
        refine g_ltM (fun σ72 _ => ?_)
        exact g_vret F hlk hr d_M_read_261
      refine g_aload_n F d_M_read_111 0 rfl ?_
      refine g_iconst F (v := 1) d_M_read_112 (by decide) ?_
      refine g_putI F fw_8_159 hq.1 rfl d_M_read_113 ?_
      refine g_ltM (fun σ73 _ => ?_)
      refine g_sub [0] rfl (l_L_M_read_116 F hlk hr _ hq _ (fun σ74 => ?_) FU _)
      refine g_aload_n F d_M_read_179 0 rfl ?_
      refine g_getI F fs_8_150 hq.1 rfl d_M_read_180 ?_
      refine g_aload_n F d_M_read_183 0 rfl ?_
      refine g_getI F fs_8_156 hq.1 rfl d_M_read_184 ?_
      refine g_isub F d_M_read_187 ?_
      refine g_iconst F (v := 4) d_M_read_188 (by decide) ?_
      refine g_icmp_gt F (tgt := 223) d_M_read_189 (by decide) (fun h62 => ?_) (fun h63 => ?_)
      · refine g_iconst F (v := 0) d_M_read_223 (by decide) ?_
        refine g_istore_n F (ls' := [(1, .int (0 : Int32)), (0, .ref (xa X q))]) d_M_read_224 (by decide) rfl ?_
        refine g_aload_n F d_M_read_225 1 rfl ?_
        refine g_iload_n F d_M_read_226 0 rfl ?_
        refine g_pt (q := (0 : Int32) = 0) (by decide) (g_if_eq F (tgt := 237) d_M_read_227 (by decide) (fun _ => ?_) (fun _ => g_no))
        refine g_iconst F (v := (-1)) d_M_read_237 (by decide) ?_
        refine g_putI F fw_8_162 hq.1 rfl d_M_read_238 ?_
        refine g_ltM (fun σ75 _ => ?_)
        refine g_goto F (tgt := 261) d_M_read_241 (by decide) ?_
        exact g_vret F hlk hr d_M_read_261
      refine g_aload_n F d_M_read_192 0 rfl ?_
      refine g_getR F fs_8_16 hq.1 rfl d_M_read_193 ?_
      refine g_aload_n F d_M_read_196 0 rfl ?_
      refine g_getI F fs_8_156 hq.1 rfl d_M_read_197 ?_
      refine g_iald F (n := 160) hq.2.2.2.1 d_M_read_200 ?_
      refine g_bipush F (v := 48) d_M_read_201 (by decide) ?_
      refine g_icmp_ne F (tgt := 219) d_M_read_203 (by decide) (fun h64 => ?_) (fun h65 => ?_)
      · refine g_aload_n F d_M_read_206 0 rfl ?_
        refine g_getI F fs_8_150 hq.1 rfl d_M_read_207 ?_
        refine g_aload_n F d_M_read_210 0 rfl ?_
        refine g_getI F fs_8_156 hq.1 rfl d_M_read_211 ?_
        refine g_isub F d_M_read_214 ?_
        refine g_iconst F (v := 1) d_M_read_215 (by decide) ?_
        refine g_icmp_ne F (tgt := 223) d_M_read_216 (by decide) (fun h66 => ?_) (fun h67 => ?_)
        · refine g_iconst F (v := 1) d_M_read_219 (by decide) ?_
          refine g_goto F (tgt := 224) d_M_read_220 (by decide) ?_
          refine g_istore_n F (ls' := [(1, .int (1 : Int32)), (0, .ref (xa X q))]) d_M_read_224 (by decide) rfl ?_
          refine g_aload_n F d_M_read_225 1 rfl ?_
          refine g_iload_n F d_M_read_226 0 rfl ?_
          refine g_pf (q := (1 : Int32) = 0) (by decide) (g_if_eq F (tgt := 237) d_M_read_227 (by decide) (fun _ => g_no) (fun _ => ?_))
          refine g_aload_n F d_M_read_230 1 rfl ?_
          refine g_getI F fs_8_162 hq.1 rfl d_M_read_231 ?_
          refine g_goto F (tgt := 238) d_M_read_234 (by decide) ?_
          refine g_putI F fw_8_162 hq.1 rfl d_M_read_238 ?_
          refine g_ltM (fun σ76 _ => ?_)
          refine g_goto F (tgt := 261) d_M_read_241 (by decide) ?_
          exact g_vret F hlk hr d_M_read_261
        refine g_iconst F (v := 0) d_M_read_223 (by decide) ?_
        refine g_istore_n F (ls' := [(1, .int (0 : Int32)), (0, .ref (xa X q))]) d_M_read_224 (by decide) rfl ?_
        refine g_aload_n F d_M_read_225 1 rfl ?_
        refine g_iload_n F d_M_read_226 0 rfl ?_
        refine g_pt (q := (0 : Int32) = 0) (by decide) (g_if_eq F (tgt := 237) d_M_read_227 (by decide) (fun _ => ?_) (fun _ => g_no))
        refine g_iconst F (v := (-1)) d_M_read_237 (by decide) ?_
        refine g_putI F fw_8_162 hq.1 rfl d_M_read_238 ?_
        refine g_ltM (fun σ77 _ => ?_)
        refine g_goto F (tgt := 261) d_M_read_241 (by decide) ?_
        exact g_vret F hlk hr d_M_read_261
      refine g_iconst F (v := 1) d_M_read_219 (by decide) ?_
      refine g_goto F (tgt := 224) d_M_read_220 (by decide) ?_
      refine g_istore_n F (ls' := [(1, .int (1 : Int32)), (0, .ref (xa X q))]) d_M_read_224 (by decide) rfl ?_
      refine g_aload_n F d_M_read_225 1 rfl ?_
      refine g_iload_n F d_M_read_226 0 rfl ?_
      refine g_pf (q := (1 : Int32) = 0) (by decide) (g_if_eq F (tgt := 237) d_M_read_227 (by decide) (fun _ => g_no) (fun _ => ?_))
      refine g_aload_n F d_M_read_230 1 rfl ?_
      refine g_getI F fs_8_162 hq.1 rfl d_M_read_231 ?_
      refine g_goto F (tgt := 238) d_M_read_234 (by decide) ?_
      refine g_putI F fw_8_162 hq.1 rfl d_M_read_238 ?_
      refine g_ltM (fun σ78 _ => ?_)
      refine g_goto F (tgt := 261) d_M_read_241 (by decide) ?_
      exact g_vret F hlk hr d_M_read_261
    refine g_aload_n F d_M_read_65 0 rfl ?_
    refine g_iconst F (v := 0) d_M_read_66 (by decide) ?_
    refine g_putI F fw_8_159 hq.1 rfl d_M_read_67 ?_
    refine g_ltM (fun σ79 _ => ?_)
    refine g_sub [0] rfl (l_L_M_read_70 F hlk hr _ hq _ (fun σ80 => ?_) FU _)
    refine g_aload_n F d_M_read_97 0 rfl ?_
    refine g_callV F (dp := 0) (ci := 8) (As := []) (c_M_here l _ hq _) cv_8_153 hq.1 rfl rfl rfl (Nat.le_of_ble_eq_true rfl) ⟨Nat.le_of_ble_eq_true rfl, Nat.le_of_ble_eq_true rfl⟩ ⟨Nat.zero_le _, Nat.zero_le _⟩ d_M_read_98 (fun r81 σ82 h68 => ?_)
    refine g_bipush F (v := 48) d_M_read_101 (by decide) ?_
    refine g_bipush F (v := 57) d_M_read_103 (by decide) ?_
    refine g_callS F (dp := 0) (As := [.int r81, .int (48 : Int32), .int (57 : Int32)]) (c_M_in l _ _ _ _) cs_8_42 rfl rfl (Nat.le_of_ble_eq_true rfl) ⟨Nat.le_of_ble_eq_true rfl, Nat.le_of_ble_eq_true rfl⟩ ⟨Nat.zero_le _, Nat.zero_le _⟩ d_M_read_105 (fun r83 σ84 h69 => ?_)
    refine g_if_eq F (tgt := 244) d_M_read_108 (by decide) (fun h70 => ?_) (fun h71 => ?_)
    · refine g_aload_n F d_M_read_244 0 rfl ?_
      refine g_callV F (dp := 0) (ci := 8) (As := []) (c_M_here l _ hq _) cv_8_153 hq.1 rfl rfl rfl (Nat.le_of_ble_eq_true rfl) ⟨Nat.le_of_ble_eq_true rfl, Nat.le_of_ble_eq_true rfl⟩ ⟨Nat.zero_le _, Nat.zero_le _⟩ d_M_read_245 (fun r85 σ86 h72 => ?_)
      refine g_if_lt F (tgt := 261) d_M_read_248 (by decide) (fun h73 => ?_) (fun h74 => ?_)
      · exact g_vret F hlk hr d_M_read_261
      refine g_aload_n F d_M_read_251 0 rfl ?_
      refine g_dup F d_M_read_252 rfl ?_
      refine g_getI F fs_8_150 hq.1 rfl d_M_read_253 ?_
      refine g_iconst F (v := 1) d_M_read_256 (by decide) ?_
      refine g_iadd F d_M_read_257 ?_
      refine g_putI F fw_8_150 hq.1 rfl d_M_read_258 ?_
      refine g_ltM (fun σ87 _ => ?_)
      exact g_vret F hlk hr d_M_read_261
    refine g_aload_n F d_M_read_111 0 rfl ?_
    refine g_iconst F (v := 1) d_M_read_112 (by decide) ?_
    refine g_putI F fw_8_159 hq.1 rfl d_M_read_113 ?_
    refine g_ltM (fun σ88 _ => ?_)
    refine g_sub [0] rfl (l_L_M_read_116 F hlk hr _ hq _ (fun σ89 => ?_) FU _)
    refine g_aload_n F d_M_read_179 0 rfl ?_
    refine g_getI F fs_8_150 hq.1 rfl d_M_read_180 ?_
    refine g_aload_n F d_M_read_183 0 rfl ?_
    refine g_getI F fs_8_156 hq.1 rfl d_M_read_184 ?_
    refine g_isub F d_M_read_187 ?_
    refine g_iconst F (v := 4) d_M_read_188 (by decide) ?_
    refine g_icmp_gt F (tgt := 223) d_M_read_189 (by decide) (fun h75 => ?_) (fun h76 => ?_)
    · refine g_iconst F (v := 0) d_M_read_223 (by decide) ?_
      refine g_istore_n F (ls' := [(1, .int (0 : Int32)), (0, .ref (xa X q))]) d_M_read_224 (by decide) rfl ?_
      refine g_aload_n F d_M_read_225 1 rfl ?_
      refine g_iload_n F d_M_read_226 0 rfl ?_
      refine g_pt (q := (0 : Int32) = 0) (by decide) (g_if_eq F (tgt := 237) d_M_read_227 (by decide) (fun _ => ?_) (fun _ => g_no))
      refine g_iconst F (v := (-1)) d_M_read_237 (by decide) ?_
      refine g_putI F fw_8_162 hq.1 rfl d_M_read_238 ?_
      refine g_ltM (fun σ90 _ => ?_)
      refine g_goto F (tgt := 261) d_M_read_241 (by decide) ?_
      exact g_vret F hlk hr d_M_read_261
    refine g_aload_n F d_M_read_192 0 rfl ?_
    refine g_getR F fs_8_16 hq.1 rfl d_M_read_193 ?_
    refine g_aload_n F d_M_read_196 0 rfl ?_
    refine g_getI F fs_8_156 hq.1 rfl d_M_read_197 ?_
    refine g_iald F (n := 160) hq.2.2.2.1 d_M_read_200 ?_
    refine g_bipush F (v := 48) d_M_read_201 (by decide) ?_
    refine g_icmp_ne F (tgt := 219) d_M_read_203 (by decide) (fun h77 => ?_) (fun h78 => ?_)
    · refine g_aload_n F d_M_read_206 0 rfl ?_
      refine g_getI F fs_8_150 hq.1 rfl d_M_read_207 ?_
      refine g_aload_n F d_M_read_210 0 rfl ?_
      refine g_getI F fs_8_156 hq.1 rfl d_M_read_211 ?_
      refine g_isub F d_M_read_214 ?_
      refine g_iconst F (v := 1) d_M_read_215 (by decide) ?_
      refine g_icmp_ne F (tgt := 223) d_M_read_216 (by decide) (fun h79 => ?_) (fun h80 => ?_)
      · refine g_iconst F (v := 1) d_M_read_219 (by decide) ?_
        refine g_goto F (tgt := 224) d_M_read_220 (by decide) ?_
        refine g_istore_n F (ls' := [(1, .int (1 : Int32)), (0, .ref (xa X q))]) d_M_read_224 (by decide) rfl ?_
        refine g_aload_n F d_M_read_225 1 rfl ?_
        refine g_iload_n F d_M_read_226 0 rfl ?_
        refine g_pf (q := (1 : Int32) = 0) (by decide) (g_if_eq F (tgt := 237) d_M_read_227 (by decide) (fun _ => g_no) (fun _ => ?_))
        refine g_aload_n F d_M_read_230 1 rfl ?_
        refine g_getI F fs_8_162 hq.1 rfl d_M_read_231 ?_
        refine g_goto F (tgt := 238) d_M_read_234 (by decide) ?_
        refine g_putI F fw_8_162 hq.1 rfl d_M_read_238 ?_
        refine g_ltM (fun σ91 _ => ?_)
        refine g_goto F (tgt := 261) d_M_read_241 (by decide) ?_
        exact g_vret F hlk hr d_M_read_261
      refine g_iconst F (v := 0) d_M_read_223 (by decide) ?_
      refine g_istore_n F (ls' := [(1, .int (0 : Int32)), (0, .ref (xa X q))]) d_M_read_224 (by decide) rfl ?_
      refine g_aload_n F d_M_read_225 1 rfl ?_
      refine g_iload_n F d_M_read_226 0 rfl ?_
      refine g_pt (q := (0 : Int32) = 0) (by decide) (g_if_eq F (tgt := 237) d_M_read_227 (by decide) (fun _ => ?_) (fun _ => g_no))
      refine g_iconst F (v := (-1)) d_M_read_237 (by decide) ?_
      refine g_putI F fw_8_162 hq.1 rfl d_M_read_238 ?_
      refine g_ltM (fun σ92 _ => ?_)
      refine g_goto F (tgt := 261) d_M_read_241 (by decide) ?_
      exact g_vret F hlk hr d_M_read_261
    refine g_iconst F (v := 1) d_M_read_219 (by decide) ?_
    refine g_goto F (tgt := 224) d_M_read_220 (by decide) ?_
    refine g_istore_n F (ls' := [(1, .int (1 : Int32)), (0, .ref (xa X q))]) d_M_read_224 (by decide) rfl ?_
    refine g_aload_n F d_M_read_225 1 rfl ?_
    refine g_iload_n F d_M_read_226 0 rfl ?_
    refine g_pf (q := (1 : Int32) = 0) (by decide) (g_if_eq F (tgt := 237) d_M_read_227 (by decide) (fun _ => g_no) (fun _ => ?_))
    refine g_aload_n F d_M_read_230 1 rfl ?_
    refine g_getI F fs_8_162 hq.1 rfl d_M_read_231 ?_
    refine g_goto F (tgt := 238) d_M_read_234 (by decide) ?_
    refine g_putI F fw_8_162 hq.1 rfl d_M_read_238 ?_
    refine g_ltM (fun σ93 _ => ?_)
    refine g_goto F (tgt := 261) d_M_read_241 (by decide) ?_
    exact g_vret F hlk hr d_M_read_261
  refine g_aload_n F d_M_read_22 0 rfl ?_
  refine g_aload_n F d_M_read_23 0 rfl ?_
  refine g_getI F fs_8_150 hq.1 rfl d_M_read_24 ?_
  refine g_putI F fw_8_156 hq.1 rfl d_M_read_27 ?_
  refine g_ltM (fun σ94 _ => ?_)
  refine g_aload_n F d_M_read_30 0 rfl ?_
  refine g_aload_n F d_M_read_31 0 rfl ?_
  refine g_callV F (dp := 0) (ci := 8) (As := []) (c_M_here l _ hq _) cv_8_153 hq.1 rfl rfl rfl (Nat.le_of_ble_eq_true rfl) ⟨Nat.le_of_ble_eq_true rfl, Nat.le_of_ble_eq_true rfl⟩ ⟨Nat.zero_le _, Nat.zero_le _⟩ d_M_read_32 (fun r95 σ96 h81 => ?_)
  refine g_if_ge F (tgt := 42) d_M_read_35 (by decide) (fun h82 => ?_) (fun h83 => ?_)
  · refine g_iconst F (v := 2) d_M_read_42 (by decide) ?_
    refine g_putI F fw_8_159 hq.1 rfl d_M_read_43 ?_
    refine g_ltM (fun σ97 _ => ?_)
    refine g_aload_n F d_M_read_46 0 rfl ?_
    refine g_iconst F (v := 0) d_M_read_47 (by decide) ?_
    refine g_putI F fw_8_162 hq.1 rfl d_M_read_48 ?_
    refine g_ltM (fun σ98 _ => ?_)
    refine g_aload_n F d_M_read_51 0 rfl ?_
    refine g_callV F (dp := 0) (ci := 8) (As := []) (c_M_here l _ hq _) cv_8_153 hq.1 rfl rfl rfl (Nat.le_of_ble_eq_true rfl) ⟨Nat.le_of_ble_eq_true rfl, Nat.le_of_ble_eq_true rfl⟩ ⟨Nat.zero_le _, Nat.zero_le _⟩ d_M_read_52 (fun r99 σ100 h84 => ?_)
    refine g_bipush F (v := 97) d_M_read_55 (by decide) ?_
    refine g_bipush F (v := 122) d_M_read_57 (by decide) ?_
    refine g_callS F (dp := 0) (As := [.int r99, .int (97 : Int32), .int (122 : Int32)]) (c_M_in l _ _ _ _) cs_8_42 rfl rfl (Nat.le_of_ble_eq_true rfl) ⟨Nat.le_of_ble_eq_true rfl, Nat.le_of_ble_eq_true rfl⟩ ⟨Nat.zero_le _, Nat.zero_le _⟩ d_M_read_59 (fun r101 σ102 h85 => ?_)
    refine g_if_eq F (tgt := 97) d_M_read_62 (by decide) (fun h86 => ?_) (fun h87 => ?_)
    · refine g_aload_n F d_M_read_97 0 rfl ?_
      refine g_callV F (dp := 0) (ci := 8) (As := []) (c_M_here l _ hq _) cv_8_153 hq.1 rfl rfl rfl (Nat.le_of_ble_eq_true rfl) ⟨Nat.le_of_ble_eq_true rfl, Nat.le_of_ble_eq_true rfl⟩ ⟨Nat.zero_le _, Nat.zero_le _⟩ d_M_read_98 (fun r103 σ104 h88 => ?_)
      refine g_bipush F (v := 48) d_M_read_101 (by decide) ?_
      refine g_bipush F (v := 57) d_M_read_103 (by decide) ?_
      refine g_callS F (dp := 0) (As := [.int r103, .int (48 : Int32), .int (57 : Int32)]) (c_M_in l _ _ _ _) cs_8_42 rfl rfl (Nat.le_of_ble_eq_true rfl) ⟨Nat.le_of_ble_eq_true rfl, Nat.le_of_ble_eq_true rfl⟩ ⟨Nat.zero_le _, Nat.zero_le _⟩ d_M_read_105 (fun r105 σ106 h89 => ?_)
      refine g_if_eq F (tgt := 244) d_M_read_108 (by decide) (fun h90 => ?_) (fun h91 => ?_)
      · refine g_aload_n F d_M_read_244 0 rfl ?_
        refine g_callV F (dp := 0) (ci := 8) (As := []) (c_M_here l _ hq _) cv_8_153 hq.1 rfl rfl rfl (Nat.le_of_ble_eq_true rfl) ⟨Nat.le_of_ble_eq_true rfl, Nat.le_of_ble_eq_true rfl⟩ ⟨Nat.zero_le _, Nat.zero_le _⟩ d_M_read_245 (fun r107 σ108 h92 => ?_)
        refine g_if_lt F (tgt := 261) d_M_read_248 (by decide) (fun h93 => ?_) (fun h94 => ?_)
        · exact g_vret F hlk hr d_M_read_261
        refine g_aload_n F d_M_read_251 0 rfl ?_
        refine g_dup F d_M_read_252 rfl ?_
        refine g_getI F fs_8_150 hq.1 rfl d_M_read_253 ?_
        refine g_iconst F (v := 1) d_M_read_256 (by decide) ?_
        refine g_iadd F d_M_read_257 ?_
        refine g_putI F fw_8_150 hq.1 rfl d_M_read_258 ?_
        refine g_ltM (fun σ109 _ => ?_)
        exact g_vret F hlk hr d_M_read_261
      refine g_aload_n F d_M_read_111 0 rfl ?_
      refine g_iconst F (v := 1) d_M_read_112 (by decide) ?_
      refine g_putI F fw_8_159 hq.1 rfl d_M_read_113 ?_
      refine g_ltM (fun σ110 _ => ?_)
      refine g_sub [0] rfl (l_L_M_read_116 F hlk hr _ hq _ (fun σ111 => ?_) FU _)
      refine g_aload_n F d_M_read_179 0 rfl ?_
      refine g_getI F fs_8_150 hq.1 rfl d_M_read_180 ?_
      refine g_aload_n F d_M_read_183 0 rfl ?_
      refine g_getI F fs_8_156 hq.1 rfl d_M_read_184 ?_
      refine g_isub F d_M_read_187 ?_
      refine g_iconst F (v := 4) d_M_read_188 (by decide) ?_
      refine g_icmp_gt F (tgt := 223) d_M_read_189 (by decide) (fun h95 => ?_) (fun h96 => ?_)
      · refine g_iconst F (v := 0) d_M_read_223 (by decide) ?_
        refine g_istore_n F (ls' := [(1, .int (0 : Int32)), (0, .ref (xa X q))]) d_M_read_224 (by decide) rfl ?_
        refine g_aload_n F d_M_read_225 1 rfl ?_
        refine g_iload_n F d_M_read_226 0 rfl ?_
        refine g_pt (q := (0 : Int32) = 0) (by decide) (g_if_eq F (tgt := 237) d_M_read_227 (by decide) (fun _ => ?_) (fun _ => g_no))
        refine g_iconst F (v := (-1)) d_M_read_237 (by decide) ?_
        refine g_putI F fw_8_162 hq.1 rfl d_M_read_238 ?_
        refine g_ltM (fun σ112 _ => ?_)
        refine g_goto F (tgt := 261) d_M_read_241 (by decide) ?_
        exact g_vret F hlk hr d_M_read_261
      refine g_aload_n F d_M_read_192 0 rfl ?_
      refine g_getR F fs_8_16 hq.1 rfl d_M_read_193 ?_
      refine g_aload_n F d_M_read_196 0 rfl ?_
      refine g_getI F fs_8_156 hq.1 rfl d_M_read_197 ?_
      refine g_iald F (n := 160) hq.2.2.2.1 d_M_read_200 ?_
      refine g_bipush F (v := 48) d_M_read_201 (by decide) ?_
      refine g_icmp_ne F (tgt := 219) d_M_read_203 (by decide) (fun h97 => ?_) (fun h98 => ?_)
      · refine g_aload_n F d_M_read_206 0 rfl ?_
        refine g_getI F fs_8_150 hq.1 rfl d_M_read_207 ?_
        refine g_aload_n F d_M_read_210 0 rfl ?_
        refine g_getI F fs_8_156 hq.1 rfl d_M_read_211 ?_
        refine g_isub F d_M_read_214 ?_
        refine g_iconst F (v := 1) d_M_read_215 (by decide) ?_
        refine g_icmp_ne F (tgt := 223) d_M_read_216 (by decide) (fun h99 => ?_) (fun h100 => ?_)
        · refine g_iconst F (v := 1) d_M_read_219 (by decide) ?_
          refine g_goto F (tgt := 224) d_M_read_220 (by decide) ?_
          refine g_istore_n F (ls' := [(1, .int (1 : Int32)), (0, .ref (xa X q))]) d_M_read_224 (by decide) rfl ?_
          refine g_aload_n F d_M_read_225 1 rfl ?_
          refine g_iload_n F d_M_read_226 0 rfl ?_
          refine g_pf (q := (1 : Int32) = 0) (by decide) (g_if_eq F (tgt := 237) d_M_read_227 (by decide) (fun _ => g_no) (fun _ => ?_))
          refine g_aload_n F d_M_read_230 1 rfl ?_
          refine g_getI F fs_8_162 hq.1 rfl d_M_read_231 ?_
          refine g_goto F (tgt := 238) d_M_read_234 (by decide) ?_
          refine g_putI F fw_8_162 hq.1 rfl d_M_read_238 ?_
          refine g_ltM (fun σ113 _ => ?_)
          refine g_goto F (tgt := 261) d_M_read_241 (by decide) ?_
          exact g_vret F hlk hr d_M_read_261
        refine g_iconst F (v := 0) d_M_read_223 (by decide) ?_
        refine g_istore_n F (ls' := [(1, .int (0 : Int32)), (0, .ref (xa X q))]) d_M_read_224 (by decide) rfl ?_
        refine g_aload_n F d_M_read_225 1 rfl ?_
        refine g_iload_n F d_M_read_226 0 rfl ?_
        refine g_pt (q := (0 : Int32) = 0) (by decide) (g_if_eq F (tgt := 237) d_M_read_227 (by decide) (fun _ => ?_) (fun _ => g_no))
        refine g_iconst F (v := (-1)) d_M_read_237 (by decide) ?_
        refine g_putI F fw_8_162 hq.1 rfl d_M_read_238 ?_
        refine g_ltM (fun σ114 _ => ?_)
        refine g_goto F (tgt := 261) d_M_read_241 (by decide) ?_
        exact g_vret F hlk hr d_M_read_261
      refine g_iconst F (v := 1) d_M_read_219 (by decide) ?_
      refine g_goto F (tgt := 224) d_M_read_220 (by decide) ?_
      refine g_istore_n F (ls' := [(1, .int (1 : Int32)), (0, .ref (xa X q))]) d_M_read_224 (by decide) rfl ?_
      refine g_aload_n F d_M_read_225 1 rfl ?_
      refine g_iload_n F d_M_read_226 0 rfl ?_
      refine g_pf (q := (1 : Int32) = 0) (by decide) (g_if_eq F (tgt := 237) d_M_read_227 (by decide) (fun _ => g_no) (fun _ => ?_))
      refine g_aload_n F d_M_read_230 1 rfl ?_
      refine g_getI F fs_8_162 hq.1 rfl d_M_read_231 ?_
      refine g_goto F (tgt := 238) d_M_read_234 (by decide) ?_
      refine g_putI F fw_8_162 hq.1 rfl d_M_read_238 ?_
      refine g_ltM (fun σ115 _ => ?_)
      refine g_goto F (tgt := 261) d_M_read_241 (by decide) ?_
      exact g_vret F hlk hr d_M_read_261
    refine g_aload_n F d_M_read_65 0 rfl ?_
    refine g_iconst F (v := 0) d_M_read_66 (by decide) ?_
    refine g_putI F fw_8_159 hq.1 rfl d_M_read_67 ?_
    refine g_ltM (fun σ116 _ => ?_)
    refine g_sub [0] rfl (l_L_M_read_70 F hlk hr _ hq _ (fun σ117 => ?_) FU _)
    refine g_aload_n F d_M_read_97 0 rfl ?_
    refine g_callV F (dp := 0) (ci := 8) (As := []) (c_M_here l _ hq _) cv_8_153 hq.1 rfl rfl rfl (Nat.le_of_ble_eq_true rfl) ⟨Nat.le_of_ble_eq_true rfl, Nat.le_of_ble_eq_true rfl⟩ ⟨Nat.zero_le _, Nat.zero_le _⟩ d_M_read_98 (fun r118 σ119 h101 => ?_)
    refine g_bipush F (v := 48) d_M_read_101 (by decide) ?_
    refine g_bipush F (v := 57) d_M_read_103 (by decide) ?_
    refine g_callS F (dp := 0) (As := [.int r118, .int (48 : Int32), .int (57 : Int32)]) (c_M_in l _ _ _ _) cs_8_42 rfl rfl (Nat.le_of_ble_eq_true rfl) ⟨Nat.le_of_ble_eq_true rfl, Nat.le_of_ble_eq_true rfl⟩ ⟨Nat.zero_le _, Nat.zero_le _⟩ d_M_read_105 (fun r120 σ121 h102 => ?_)
    refine g_if_eq F (tgt := 244) d_M_read_108 (by decide) (fun h103 => ?_) (fun h104 => ?_)
    · refine g_aload_n F d_M_read_244 0 rfl ?_
      refine g_callV F (dp := 0) (ci := 8) (As := []) (c_M_here l _ hq _) cv_8_153 hq.1 rfl rfl rfl (Nat.le_of_ble_eq_true rfl) ⟨Nat.le_of_ble_eq_true rfl, Nat.le_of_ble_eq_true rfl⟩ ⟨Nat.zero_le _, Nat.zero_le _⟩ d_M_read_245 (fun r122 σ123 h105 => ?_)
      refine g_if_lt F (tgt := 261) d_M_read_248 (by decide) (fun h106 => ?_) (fun h107 => ?_)
      · exact g_vret F hlk hr d_M_read_261
      refine g_aload_n F d_M_read_251 0 rfl ?_
      refine g_dup F d_M_read_252 rfl ?_
      refine g_getI F fs_8_150 hq.1 rfl d_M_read_253 ?_
      refine g_iconst F (v := 1) d_M_read_256 (by decide) ?_
      refine g_iadd F d_M_read_257 ?_
      refine g_putI F fw_8_150 hq.1 rfl d_M_read_258 ?_
      refine g_ltM (fun σ124 _ => ?_)
      exact g_vret F hlk hr d_M_read_261
    refine g_aload_n F d_M_read_111 0 rfl ?_
    refine g_iconst F (v := 1) d_M_read_112 (by decide) ?_
    refine g_putI F fw_8_159 hq.1 rfl d_M_read_113 ?_
    refine g_ltM (fun σ125 _ => ?_)
    refine g_sub [0] rfl (l_L_M_read_116 F hlk hr _ hq _ (fun σ126 => ?_) FU _)
    refine g_aload_n F d_M_read_179 0 rfl ?_
    refine g_getI F fs_8_150 hq.1 rfl d_M_read_180 ?_
    refine g_aload_n F d_M_read_183 0 rfl ?_
    refine g_getI F fs_8_156 hq.1 rfl d_M_read_184 ?_
    refine g_isub F d_M_read_187 ?_
    refine g_iconst F (v := 4) d_M_read_188 (by decide) ?_
    refine g_icmp_gt F (tgt := 223) d_M_read_189 (by decide) (fun h108 => ?_) (fun h109 => ?_)
    · refine g_iconst F (v := 0) d_M_read_223 (by decide) ?_
      refine g_istore_n F (ls' := [(1, .int (0 : Int32)), (0, .ref (xa X q))]) d_M_read_224 (by decide) rfl ?_
      refine g_aload_n F d_M_read_225 1 rfl ?_
      refine g_iload_n F d_M_read_226 0 rfl ?_
      refine g_pt (q := (0 : Int32) = 0) (by decide) (g_if_eq F (tgt := 237) d_M_read_227 (by decide) (fun _ => ?_) (fun _ => g_no))
      refine g_iconst F (v := (-1)) d_M_read_237 (by decide) ?_
      refine g_putI F fw_8_162 hq.1 rfl d_M_read_238 ?_
      refine g_ltM (fun σ127 _ => ?_)
      refine g_goto F (tgt := 261) d_M_read_241 (by decide) ?_
      exact g_vret F hlk hr d_M_read_261
    refine g_aload_n F d_M_read_192 0 rfl ?_
    refine g_getR F fs_8_16 hq.1 rfl d_M_read_193 ?_
    refine g_aload_n F d_M_read_196 0 rfl ?_
    refine g_getI F fs_8_156 hq.1 rfl d_M_read_197 ?_
    refine g_iald F (n := 160) hq.2.2.2.1 d_M_read_200 ?_
    refine g_bipush F (v := 48) d_M_read_201 (by decide) ?_
    refine g_icmp_ne F (tgt := 219) d_M_read_203 (by decide) (fun h110 => ?_) (fun h111 => ?_)
    · refine g_aload_n F d_M_read_206 0 rfl ?_
      refine g_getI F fs_8_150 hq.1 rfl d_M_read_207 ?_
      refine g_aload_n F d_M_read_210 0 rfl ?_
      refine g_getI F fs_8_156 hq.1 rfl d_M_read_211 ?_
      refine g_isub F d_M_read_214 ?_
      refine g_iconst F (v := 1) d_M_read_215 (by decide) ?_
      refine g_icmp_ne F (tgt := 223) d_M_read_216 (by decide) (fun h112 => ?_) (fun h113 => ?_)
      · refine g_iconst F (v := 1) d_M_read_219 (by decide) ?_
        refine g_goto F (tgt := 224) d_M_read_220 (by decide) ?_
        refine g_istore_n F (ls' := [(1, .int (1 : Int32)), (0, .ref (xa X q))]) d_M_read_224 (by decide) rfl ?_
        refine g_aload_n F d_M_read_225 1 rfl ?_
        refine g_iload_n F d_M_read_226 0 rfl ?_
        refine g_pf (q := (1 : Int32) = 0) (by decide) (g_if_eq F (tgt := 237) d_M_read_227 (by decide) (fun _ => g_no) (fun _ => ?_))
        refine g_aload_n F d_M_read_230 1 rfl ?_
        refine g_getI F fs_8_162 hq.1 rfl d_M_read_231 ?_
        refine g_goto F (tgt := 238) d_M_read_234 (by decide) ?_
        refine g_putI F fw_8_162 hq.1 rfl d_M_read_238 ?_
        refine g_ltM (fun σ128 _ => ?_)
        refine g_goto F (tgt := 261) d_M_read_241 (by decide) ?_
        exact g_vret F hlk hr d_M_read_261
      refine g_iconst F (v := 0) d_M_read_223 (by decide) ?_
      refine g_istore_n F (ls' := [(1, .int (0 : Int32)), (0, .ref (xa X q))]) d_M_read_224 (by decide) rfl ?_
      refine g_aload_n F d_M_read_225 1 rfl ?_
      refine g_iload_n F d_M_read_226 0 rfl ?_
      refine g_pt (q := (0 : Int32) = 0) (by decide) (g_if_eq F (tgt := 237) d_M_read_227 (by decide) (fun _ => ?_) (fun _ => g_no))
      refine g_iconst F (v := (-1)) d_M_read_237 (by decide) ?_
      refine g_putI F fw_8_162 hq.1 rfl d_M_read_238 ?_
      refine g_ltM (fun σ129 _ => ?_)
      refine g_goto F (tgt := 261) d_M_read_241 (by decide) ?_
      exact g_vret F hlk hr d_M_read_261
    refine g_iconst F (v := 1) d_M_read_219 (by decide) ?_
    refine g_goto F (tgt := 224) d_M_read_220 (by decide) ?_
    refine g_istore_n F (ls' := [(1, .int (1 : Int32)), (0, .ref (xa X q))]) d_M_read_224 (by decide) rfl ?_
    refine g_aload_n F d_M_read_225 1 rfl ?_
    refine g_iload_n F d_M_read_226 0 rfl ?_
    refine g_pf (q := (1 : Int32) = 0) (by decide) (g_if_eq F (tgt := 237) d_M_read_227 (by decide) (fun _ => g_no) (fun _ => ?_))
    refine g_aload_n F d_M_read_230 1 rfl ?_
    refine g_getI F fs_8_162 hq.1 rfl d_M_read_231 ?_
    refine g_goto F (tgt := 238) d_M_read_234 (by decide) ?_
    refine g_putI F fw_8_162 hq.1 rfl d_M_read_238 ?_
    refine g_ltM (fun σ130 _ => ?_)
    refine g_goto F (tgt := 261) d_M_read_241 (by decide) ?_
    exact g_vret F hlk hr d_M_read_261
  refine g_iconst F (v := 3) d_M_read_38 (by decide) ?_
  refine g_goto F (tgt := 43) d_M_read_39 (by decide) ?_
  refine g_putI F fw_8_159 hq.1 rfl d_M_read_43 ?_
  refine g_ltM (fun σ131 _ => ?_)
  refine g_aload_n F d_M_read_46 0 rfl ?_
  refine g_iconst F (v := 0) d_M_read_47 (by decide) ?_
  refine g_putI F fw_8_162 hq.1 rfl d_M_read_48 ?_
  refine g_ltM (fun σ132 _ => ?_)
  refine g_aload_n F d_M_read_51 0 rfl ?_
  refine g_callV F (dp := 0) (ci := 8) (As := []) (c_M_here l _ hq _) cv_8_153 hq.1 rfl rfl rfl (Nat.le_of_ble_eq_true rfl) ⟨Nat.le_of_ble_eq_true rfl, Nat.le_of_ble_eq_true rfl⟩ ⟨Nat.zero_le _, Nat.zero_le _⟩ d_M_read_52 (fun r133 σ134 h114 => ?_)
  refine g_bipush F (v := 97) d_M_read_55 (by decide) ?_
  refine g_bipush F (v := 122) d_M_read_57 (by decide) ?_
  refine g_callS F (dp := 0) (As := [.int r133, .int (97 : Int32), .int (122 : Int32)]) (c_M_in l _ _ _ _) cs_8_42 rfl rfl (Nat.le_of_ble_eq_true rfl) ⟨Nat.le_of_ble_eq_true rfl, Nat.le_of_ble_eq_true rfl⟩ ⟨Nat.zero_le _, Nat.zero_le _⟩ d_M_read_59 (fun r135 σ136 h115 => ?_)
  refine g_if_eq F (tgt := 97) d_M_read_62 (by decide) (fun h116 => ?_) (fun h117 => ?_)
  · refine g_aload_n F d_M_read_97 0 rfl ?_
    refine g_callV F (dp := 0) (ci := 8) (As := []) (c_M_here l _ hq _) cv_8_153 hq.1 rfl rfl rfl (Nat.le_of_ble_eq_true rfl) ⟨Nat.le_of_ble_eq_true rfl, Nat.le_of_ble_eq_true rfl⟩ ⟨Nat.zero_le _, Nat.zero_le _⟩ d_M_read_98 (fun r137 σ138 h118 => ?_)
    refine g_bipush F (v := 48) d_M_read_101 (by decide) ?_
    refine g_bipush F (v := 57) d_M_read_103 (by decide) ?_
    refine g_callS F (dp := 0) (As := [.int r137, .int (48 : Int32), .int (57 : Int32)]) (c_M_in l _ _ _ _) cs_8_42 rfl rfl (Nat.le_of_ble_eq_true rfl) ⟨Nat.le_of_ble_eq_true rfl, Nat.le_of_ble_eq_true rfl⟩ ⟨Nat.zero_le _, Nat.zero_le _⟩ d_M_read_105 (fun r139 σ140 h119 => ?_)
    refine g_if_eq F (tgt := 244) d_M_read_108 (by decide) (fun h120 => ?_) (fun h121 => ?_)
    · refine g_aload_n F d_M_read_244 0 rfl ?_
      refine g_callV F (dp := 0) (ci := 8) (As := []) (c_M_here l _ hq _) cv_8_153 hq.1 rfl rfl rfl (Nat.le_of_ble_eq_true rfl) ⟨Nat.le_of_ble_eq_true rfl, Nat.le_of_ble_eq_true rfl⟩ ⟨Nat.zero_le _, Nat.zero_le _⟩ d_M_read_245 (fun r141 σ142 h122 => ?_)
      refine g_if_lt F (tgt := 261) d_M_read_248 (by decide) (fun h123 => ?_) (fun h124 => ?_)
      · exact g_vret F hlk hr d_M_read_261
      refine g_aload_n F d_M_read_251 0 rfl ?_
      refine g_dup F d_M_read_252 rfl ?_
      refine g_getI F fs_8_150 hq.1 rfl d_M_read_253 ?_
      refine g_iconst F (v := 1) d_M_read_256 (by decide) ?_
      refine g_iadd F d_M_read_257 ?_
      refine g_putI F fw_8_150 hq.1 rfl d_M_read_258 ?_
      refine g_ltM (fun σ143 _ => ?_)
      exact g_vret F hlk hr d_M_read_261
    refine g_aload_n F d_M_read_111 0 rfl ?_
    refine g_iconst F (v := 1) d_M_read_112 (by decide) ?_
    refine g_putI F fw_8_159 hq.1 rfl d_M_read_113 ?_
    refine g_ltM (fun σ144 _ => ?_)
    refine g_sub [0] rfl (l_L_M_read_116 F hlk hr _ hq _ (fun σ145 => ?_) FU _)
    refine g_aload_n F d_M_read_179 0 rfl ?_
    refine g_getI F fs_8_150 hq.1 rfl d_M_read_180 ?_
    refine g_aload_n F d_M_read_183 0 rfl ?_
    refine g_getI F fs_8_156 hq.1 rfl d_M_read_184 ?_
    refine g_isub F d_M_read_187 ?_
    refine g_iconst F (v := 4) d_M_read_188 (by decide) ?_
    refine g_icmp_gt F (tgt := 223) d_M_read_189 (by decide) (fun h125 => ?_) (fun h126 => ?_)
    · refine g_iconst F (v := 0) d_M_read_223 (by decide) ?_
      refine g_istore_n F (ls' := [(1, .int (0 : Int32)), (0, .ref (xa X q))]) d_M_read_224 (by decide) rfl ?_
      refine g_aload_n F d_M_read_225 1 rfl ?_
      refine g_iload_n F d_M_read_226 0 rfl ?_
      refine g_pt (q := (0 : Int32) = 0) (by decide) (g_if_eq F (tgt := 237) d_M_read_227 (by decide) (fun _ => ?_) (fun _ => g_no))
      refine g_iconst F (v := (-1)) d_M_read_237 (by decide) ?_
      refine g_putI F fw_8_162 hq.1 rfl d_M_read_238 ?_
      refine g_ltM (fun σ146 _ => ?_)
      refine g_goto F (tgt := 261) d_M_read_241 (by decide) ?_
      exact g_vret F hlk hr d_M_read_261
    refine g_aload_n F d_M_read_192 0 rfl ?_
    refine g_getR F fs_8_16 hq.1 rfl d_M_read_193 ?_
    refine g_aload_n F d_M_read_196 0 rfl ?_
    refine g_getI F fs_8_156 hq.1 rfl d_M_read_197 ?_
    refine g_iald F (n := 160) hq.2.2.2.1 d_M_read_200 ?_
    refine g_bipush F (v := 48) d_M_read_201 (by decide) ?_
    refine g_icmp_ne F (tgt := 219) d_M_read_203 (by decide) (fun h127 => ?_) (fun h128 => ?_)
    · refine g_aload_n F d_M_read_206 0 rfl ?_
      refine g_getI F fs_8_150 hq.1 rfl d_M_read_207 ?_
      refine g_aload_n F d_M_read_210 0 rfl ?_
      refine g_getI F fs_8_156 hq.1 rfl d_M_read_211 ?_
      refine g_isub F d_M_read_214 ?_
      refine g_iconst F (v := 1) d_M_read_215 (by decide) ?_
      refine g_icmp_ne F (tgt := 223) d_M_read_216 (by decide) (fun h129 => ?_) (fun h130 => ?_)
      · refine g_iconst F (v := 1) d_M_read_219 (by decide) ?_
        refine g_goto F (tgt := 224) d_M_read_220 (by decide) ?_
        refine g_istore_n F (ls' := [(1, .int (1 : Int32)), (0, .ref (xa X q))]) d_M_read_224 (by decide) rfl ?_
        refine g_aload_n F d_M_read_225 1 rfl ?_
        refine g_iload_n F d_M_read_226 0 rfl ?_
        refine g_pf (q := (1 : Int32) = 0) (by decide) (g_if_eq F (tgt := 237) d_M_read_227 (by decide) (fun _ => g_no) (fun _ => ?_))
        refine g_aload_n F d_M_read_230 1 rfl ?_
        refine g_getI F fs_8_162 hq.1 rfl d_M_read_231 ?_
        refine g_goto F (tgt := 238) d_M_read_234 (by decide) ?_
        refine g_putI F fw_8_162 hq.1 rfl d_M_read_238 ?_
        refine g_ltM (fun σ147 _ => ?_)
        refine g_goto F (tgt := 261) d_M_read_241 (by decide) ?_
        exact g_vret F hlk hr d_M_read_261
      refine g_iconst F (v := 0) d_M_read_223 (by decide) ?_
      refine g_istore_n F (ls' := [(1, .int (0 : Int32)), (0, .ref (xa X q))]) d_M_read_224 (by decide) rfl ?_
      refine g_aload_n F d_M_read_225 1 rfl ?_
      refine g_iload_n F d_M_read_226 0 rfl ?_
      refine g_pt (q := (0 : Int32) = 0) (by decide) (g_if_eq F (tgt := 237) d_M_read_227 (by decide) (fun _ => ?_) (fun _ => g_no))
      refine g_iconst F (v := (-1)) d_M_read_237 (by decide) ?_
      refine g_putI F fw_8_162 hq.1 rfl d_M_read_238 ?_
      refine g_ltM (fun σ148 _ => ?_)
      refine g_goto F (tgt := 261) d_M_read_241 (by decide) ?_
      exact g_vret F hlk hr d_M_read_261
    refine g_iconst F (v := 1) d_M_read_219 (by decide) ?_
    refine g_goto F (tgt := 224) d_M_read_220 (by decide) ?_
    refine g_istore_n F (ls' := [(1, .int (1 : Int32)), (0, .ref (xa X q))]) d_M_read_224 (by decide) rfl ?_
    refine g_aload_n F d_M_read_225 1 rfl ?_
    refine g_iload_n F d_M_read_226 0 rfl ?_
    refine g_pf (q := (1 : Int32) = 0) (by decide) (g_if_eq F (tgt := 237) d_M_read_227 (by decide) (fun _ => g_no) (fun _ => ?_))
    refine g_aload_n F d_M_read_230 1 rfl ?_
    refine g_getI F fs_8_162 hq.1 rfl d_M_read_231 ?_
    refine g_goto F (tgt := 238) d_M_read_234 (by decide) ?_
    refine g_putI F fw_8_162 hq.1 rfl d_M_read_238 ?_
    refine g_ltM (fun σ149 _ => ?_)
    refine g_goto F (tgt := 261) d_M_read_241 (by decide) ?_
    exact g_vret F hlk hr d_M_read_261
  refine g_aload_n F d_M_read_65 0 rfl ?_
  refine g_iconst F (v := 0) d_M_read_66 (by decide) ?_
  refine g_putI F fw_8_159 hq.1 rfl d_M_read_67 ?_
  refine g_ltM (fun σ150 _ => ?_)
  refine g_sub [0] rfl (l_L_M_read_70 F hlk hr _ hq _ (fun σ151 => ?_) FU _)
  refine g_aload_n F d_M_read_97 0 rfl ?_
  refine g_callV F (dp := 0) (ci := 8) (As := []) (c_M_here l _ hq _) cv_8_153 hq.1 rfl rfl rfl (Nat.le_of_ble_eq_true rfl) ⟨Nat.le_of_ble_eq_true rfl, Nat.le_of_ble_eq_true rfl⟩ ⟨Nat.zero_le _, Nat.zero_le _⟩ d_M_read_98 (fun r152 σ153 h131 => ?_)
  refine g_bipush F (v := 48) d_M_read_101 (by decide) ?_
  refine g_bipush F (v := 57) d_M_read_103 (by decide) ?_
  refine g_callS F (dp := 0) (As := [.int r152, .int (48 : Int32), .int (57 : Int32)]) (c_M_in l _ _ _ _) cs_8_42 rfl rfl (Nat.le_of_ble_eq_true rfl) ⟨Nat.le_of_ble_eq_true rfl, Nat.le_of_ble_eq_true rfl⟩ ⟨Nat.zero_le _, Nat.zero_le _⟩ d_M_read_105 (fun r154 σ155 h132 => ?_)
  refine g_if_eq F (tgt := 244) d_M_read_108 (by decide) (fun h133 => ?_) (fun h134 => ?_)
  · refine g_aload_n F d_M_read_244 0 rfl ?_
    refine g_callV F (dp := 0) (ci := 8) (As := []) (c_M_here l _ hq _) cv_8_153 hq.1 rfl rfl rfl (Nat.le_of_ble_eq_true rfl) ⟨Nat.le_of_ble_eq_true rfl, Nat.le_of_ble_eq_true rfl⟩ ⟨Nat.zero_le _, Nat.zero_le _⟩ d_M_read_245 (fun r156 σ157 h135 => ?_)
    refine g_if_lt F (tgt := 261) d_M_read_248 (by decide) (fun h136 => ?_) (fun h137 => ?_)
    · exact g_vret F hlk hr d_M_read_261
    refine g_aload_n F d_M_read_251 0 rfl ?_
    refine g_dup F d_M_read_252 rfl ?_
    refine g_getI F fs_8_150 hq.1 rfl d_M_read_253 ?_
    refine g_iconst F (v := 1) d_M_read_256 (by decide) ?_
    refine g_iadd F d_M_read_257 ?_
    refine g_putI F fw_8_150 hq.1 rfl d_M_read_258 ?_
    refine g_ltM (fun σ158 _ => ?_)
    exact g_vret F hlk hr d_M_read_261
  refine g_aload_n F d_M_read_111 0 rfl ?_
  refine g_iconst F (v := 1) d_M_read_112 (by decide) ?_
  refine g_putI F fw_8_159 hq.1 rfl d_M_read_113 ?_
  refine g_ltM (fun σ159 _ => ?_)
  refine g_sub [0] rfl (l_L_M_read_116 F hlk hr _ hq _ (fun σ160 => ?_) FU _)
  refine g_aload_n F d_M_read_179 0 rfl ?_
  refine g_getI F fs_8_150 hq.1 rfl d_M_read_180 ?_
  refine g_aload_n F d_M_read_183 0 rfl ?_
  refine g_getI F fs_8_156 hq.1 rfl d_M_read_184 ?_
  refine g_isub F d_M_read_187 ?_
  refine g_iconst F (v := 4) d_M_read_188 (by decide) ?_
  refine g_icmp_gt F (tgt := 223) d_M_read_189 (by decide) (fun h138 => ?_) (fun h139 => ?_)
  · refine g_iconst F (v := 0) d_M_read_223 (by decide) ?_
    refine g_istore_n F (ls' := [(1, .int (0 : Int32)), (0, .ref (xa X q))]) d_M_read_224 (by decide) rfl ?_
    refine g_aload_n F d_M_read_225 1 rfl ?_
    refine g_iload_n F d_M_read_226 0 rfl ?_
    refine g_pt (q := (0 : Int32) = 0) (by decide) (g_if_eq F (tgt := 237) d_M_read_227 (by decide) (fun _ => ?_) (fun _ => g_no))
    refine g_iconst F (v := (-1)) d_M_read_237 (by decide) ?_
    refine g_putI F fw_8_162 hq.1 rfl d_M_read_238 ?_
    refine g_ltM (fun σ161 _ => ?_)
    refine g_goto F (tgt := 261) d_M_read_241 (by decide) ?_
    exact g_vret F hlk hr d_M_read_261
  refine g_aload_n F d_M_read_192 0 rfl ?_
  refine g_getR F fs_8_16 hq.1 rfl d_M_read_193 ?_
  refine g_aload_n F d_M_read_196 0 rfl ?_
  refine g_getI F fs_8_156 hq.1 rfl d_M_read_197 ?_
  refine g_iald F (n := 160) hq.2.2.2.1 d_M_read_200 ?_
  refine g_bipush F (v := 48) d_M_read_201 (by decide) ?_
  refine g_icmp_ne F (tgt := 219) d_M_read_203 (by decide) (fun h140 => ?_) (fun h141 => ?_)
  · refine g_aload_n F d_M_read_206 0 rfl ?_
    refine g_getI F fs_8_150 hq.1 rfl d_M_read_207 ?_
    refine g_aload_n F d_M_read_210 0 rfl ?_
    refine g_getI F fs_8_156 hq.1 rfl d_M_read_211 ?_
    refine g_isub F d_M_read_214 ?_
    refine g_iconst F (v := 1) d_M_read_215 (by decide) ?_
    refine g_icmp_ne F (tgt := 223) d_M_read_216 (by decide) (fun h142 => ?_) (fun h143 => ?_)
    · refine g_iconst F (v := 1) d_M_read_219 (by decide) ?_
      refine g_goto F (tgt := 224) d_M_read_220 (by decide) ?_
      refine g_istore_n F (ls' := [(1, .int (1 : Int32)), (0, .ref (xa X q))]) d_M_read_224 (by decide) rfl ?_
      refine g_aload_n F d_M_read_225 1 rfl ?_
      refine g_iload_n F d_M_read_226 0 rfl ?_
      refine g_pf (q := (1 : Int32) = 0) (by decide) (g_if_eq F (tgt := 237) d_M_read_227 (by decide) (fun _ => g_no) (fun _ => ?_))
      refine g_aload_n F d_M_read_230 1 rfl ?_
      refine g_getI F fs_8_162 hq.1 rfl d_M_read_231 ?_
      refine g_goto F (tgt := 238) d_M_read_234 (by decide) ?_
      refine g_putI F fw_8_162 hq.1 rfl d_M_read_238 ?_
      refine g_ltM (fun σ162 _ => ?_)
      refine g_goto F (tgt := 261) d_M_read_241 (by decide) ?_
      exact g_vret F hlk hr d_M_read_261
    refine g_iconst F (v := 0) d_M_read_223 (by decide) ?_
    refine g_istore_n F (ls' := [(1, .int (0 : Int32)), (0, .ref (xa X q))]) d_M_read_224 (by decide) rfl ?_
    refine g_aload_n F d_M_read_225 1 rfl ?_
    refine g_iload_n F d_M_read_226 0 rfl ?_
    refine g_pt (q := (0 : Int32) = 0) (by decide) (g_if_eq F (tgt := 237) d_M_read_227 (by decide) (fun _ => ?_) (fun _ => g_no))
    refine g_iconst F (v := (-1)) d_M_read_237 (by decide) ?_
    refine g_putI F fw_8_162 hq.1 rfl d_M_read_238 ?_
    refine g_ltM (fun σ163 _ => ?_)
    refine g_goto F (tgt := 261) d_M_read_241 (by decide) ?_
    exact g_vret F hlk hr d_M_read_261
  refine g_iconst F (v := 1) d_M_read_219 (by decide) ?_
  refine g_goto F (tgt := 224) d_M_read_220 (by decide) ?_
  refine g_istore_n F (ls' := [(1, .int (1 : Int32)), (0, .ref (xa X q))]) d_M_read_224 (by decide) rfl ?_
  refine g_aload_n F d_M_read_225 1 rfl ?_
  refine g_iload_n F d_M_read_226 0 rfl ?_
  refine g_pf (q := (1 : Int32) = 0) (by decide) (g_if_eq F (tgt := 237) d_M_read_227 (by decide) (fun _ => g_no) (fun _ => ?_))
  refine g_aload_n F d_M_read_230 1 rfl ?_
  refine g_getI F fs_8_162 hq.1 rfl d_M_read_231 ?_
  refine g_goto F (tgt := 238) d_M_read_234 (by decide) ?_
  refine g_putI F fw_8_162 hq.1 rfl d_M_read_238 ?_
  refine g_ltM (fun σ164 _ => ?_)
  refine g_goto F (tgt := 261) d_M_read_241 (by decide) ?_
  exact g_vret F hlk hr d_M_read_261
def y_M_isWord : MethodName := ⟨"SensorHubModel", "isWord", "(III)Z"⟩
theorem d_M_isWord_0 : decode prog_10_method_49_code 0 = .ok (.aload_n 0, 1) := by decide +kernel
theorem d_M_isWord_1 : decode prog_10_method_49_code 1 = .ok (.getfield 159, 3) := by decide +kernel
theorem d_M_isWord_4 : decode prog_10_method_49_code 4 = .ok (.ifCond .ne 63, 3) := by decide +kernel
theorem d_M_isWord_7 : decode prog_10_method_49_code 7 = .ok (.aload_n 0, 1) := by decide +kernel
theorem d_M_isWord_8 : decode prog_10_method_49_code 8 = .ok (.getfield 150, 3) := by decide +kernel
theorem d_M_isWord_11 : decode prog_10_method_49_code 11 = .ok (.aload_n 0, 1) := by decide +kernel
theorem d_M_isWord_12 : decode prog_10_method_49_code 12 = .ok (.getfield 156, 3) := by decide +kernel
theorem d_M_isWord_15 : decode prog_10_method_49_code 15 = .ok (.isub, 1) := by decide +kernel
theorem d_M_isWord_16 : decode prog_10_method_49_code 16 = .ok (.iconst 3, 1) := by decide +kernel
theorem d_M_isWord_17 : decode prog_10_method_49_code 17 = .ok (.if_icmp .ne 50, 3) := by decide +kernel
theorem d_M_isWord_20 : decode prog_10_method_49_code 20 = .ok (.aload_n 0, 1) := by decide +kernel
theorem d_M_isWord_21 : decode prog_10_method_49_code 21 = .ok (.getfield 16, 3) := by decide +kernel
theorem d_M_isWord_24 : decode prog_10_method_49_code 24 = .ok (.aload_n 0, 1) := by decide +kernel
theorem d_M_isWord_25 : decode prog_10_method_49_code 25 = .ok (.getfield 156, 3) := by decide +kernel
theorem d_M_isWord_28 : decode prog_10_method_49_code 28 = .ok (.iaload, 1) := by decide +kernel
theorem d_M_isWord_29 : decode prog_10_method_49_code 29 = .ok (.iload_n 1, 1) := by decide +kernel
theorem d_M_isWord_30 : decode prog_10_method_49_code 30 = .ok (.if_icmp .ne 37, 3) := by decide +kernel
theorem d_M_isWord_33 : decode prog_10_method_49_code 33 = .ok (.aload_n 0, 1) := by decide +kernel
theorem d_M_isWord_34 : decode prog_10_method_49_code 34 = .ok (.getfield 16, 3) := by decide +kernel
theorem d_M_isWord_37 : decode prog_10_method_49_code 37 = .ok (.aload_n 0, 1) := by decide +kernel
theorem d_M_isWord_38 : decode prog_10_method_49_code 38 = .ok (.getfield 156, 3) := by decide +kernel
theorem d_M_isWord_41 : decode prog_10_method_49_code 41 = .ok (.iconst 1, 1) := by decide +kernel
theorem d_M_isWord_42 : decode prog_10_method_49_code 42 = .ok (.iadd, 1) := by decide +kernel
theorem d_M_isWord_43 : decode prog_10_method_49_code 43 = .ok (.iaload, 1) := by decide +kernel
theorem d_M_isWord_44 : decode prog_10_method_49_code 44 = .ok (.iload_n 2, 1) := by decide +kernel
theorem d_M_isWord_45 : decode prog_10_method_49_code 45 = .ok (.if_icmp .ne 22, 3) := by decide +kernel
theorem d_M_isWord_48 : decode prog_10_method_49_code 48 = .ok (.aload_n 0, 1) := by decide +kernel
theorem d_M_isWord_49 : decode prog_10_method_49_code 49 = .ok (.getfield 16, 3) := by decide +kernel
theorem d_M_isWord_52 : decode prog_10_method_49_code 52 = .ok (.aload_n 0, 1) := by decide +kernel
theorem d_M_isWord_53 : decode prog_10_method_49_code 53 = .ok (.getfield 156, 3) := by decide +kernel
theorem d_M_isWord_56 : decode prog_10_method_49_code 56 = .ok (.iconst 2, 1) := by decide +kernel
theorem d_M_isWord_57 : decode prog_10_method_49_code 57 = .ok (.iadd, 1) := by decide +kernel
theorem d_M_isWord_58 : decode prog_10_method_49_code 58 = .ok (.iaload, 1) := by decide +kernel
theorem d_M_isWord_59 : decode prog_10_method_49_code 59 = .ok (.iload_n 3, 1) := by decide +kernel
theorem d_M_isWord_60 : decode prog_10_method_49_code 60 = .ok (.if_icmp .ne 7, 3) := by decide +kernel
theorem d_M_isWord_63 : decode prog_10_method_49_code 63 = .ok (.iconst 1, 1) := by decide +kernel
theorem d_M_isWord_64 : decode prog_10_method_49_code 64 = .ok (.goto 4, 3) := by decide +kernel
theorem d_M_isWord_67 : decode prog_10_method_49_code 67 = .ok (.iconst 0, 1) := by decide +kernel
theorem d_M_isWord_68 : decode prog_10_method_49_code 68 = .ok (.ireturn, 1) := by decide +kernel
theorem fs_8_159 : FS "SensorHubModel" 159 8 13 := ⟨"SensorHubModel", T_8, 16, rfl, by decide, rfl, gw_I 905 (by decide +kernel) rfl⟩
def f_M_isWord (q : Nat) (p1 : Int32) (p2 : Int32) (p3 : Int32) (σ : Mem) : Option (Int32 × Mem) :=
  if (σ q 13) = 0 then
    if ((σ q 11) - (σ q 12)) = (3 : Int32) then
      if ib (σ q 12) 160 then
        if (σ (q + 3) (σ q 12).toNatClampNeg) = p1 then
          if ib ((σ q 12) + (1 : Int32)) 160 then
            if (σ (q + 3) ((σ q 12) + (1 : Int32)).toNatClampNeg) = p2 then
              if ib ((σ q 12) + (2 : Int32)) 160 then
                if (σ (q + 3) ((σ q 12) + (2 : Int32)).toNatClampNeg) = p3 then some ((1 : Int32), σ) else some ((0 : Int32), σ)
              else none
            else
              some ((0 : Int32), σ)
          else none
        else
          some ((0 : Int32), σ)
      else none
    else
      some ((0 : Int32), σ)
  else
    some ((0 : Int32), σ)
set_option maxRecDepth 100000 in
set_option maxHeartbeats 4000000 in
theorem c_M_isWord {X : CX} (l : Launch) (q : Nat) (p1 : Int32) (p2 : Int32) (p3 : Int32) (hq : ModelOK X q) (σ : Mem) : CT X l y_M_isWord prog_10_method_49_code 4 (some .boolean) 0 vI [.ref (xa X q), .int p1, .int p2, .int p3] σ (f_M_isWord q p1 p2 p3 σ) := by
  refine CT_of (by decide +kernel) (Nat.le_of_ble_eq_true rfl) ?_
  intro p e s m args below meth c F hlk hr
  have F : FR p s m args c prog_10_method_49_code 4 "SensorHubModel" X := F
  show G X p l e (rmD 0) s m args below meth c 4 0 0 (QI X below args s vI) 0 [(0, .ref (xa X q)), (1, .int p1), (2, .int p2), (3, .int p3)] [] σ _
  unfold f_M_isWord
  refine g_aload_n F d_M_isWord_0 0 rfl ?_
  refine g_getI F fs_8_159 hq.1 rfl d_M_isWord_1 ?_
  refine g_if_ne F (tgt := 67) d_M_isWord_4 (by decide) (fun h1 => ?_) (fun h2 => ?_)
  · refine g_aload_n F d_M_isWord_7 0 rfl ?_
    refine g_getI F fs_8_150 hq.1 rfl d_M_isWord_8 ?_
    refine g_aload_n F d_M_isWord_11 0 rfl ?_
    refine g_getI F fs_8_156 hq.1 rfl d_M_isWord_12 ?_
    refine g_isub F d_M_isWord_15 ?_
    refine g_iconst F (v := 3) d_M_isWord_16 (by decide) ?_
    refine g_icmp_ne F (tgt := 67) d_M_isWord_17 (by decide) (fun h3 => ?_) (fun h4 => ?_)
    · refine g_aload_n F d_M_isWord_20 0 rfl ?_
      refine g_getR F fs_8_16 hq.1 rfl d_M_isWord_21 ?_
      refine g_aload_n F d_M_isWord_24 0 rfl ?_
      refine g_getI F fs_8_156 hq.1 rfl d_M_isWord_25 ?_
      refine g_iald F (n := 160) hq.2.2.2.1 d_M_isWord_28 ?_
      refine g_iload_n F d_M_isWord_29 1 rfl ?_
      refine g_icmp_ne F (tgt := 67) d_M_isWord_30 (by decide) (fun h5 => ?_) (fun h6 => ?_)
      · refine g_aload_n F d_M_isWord_33 0 rfl ?_
        refine g_getR F fs_8_16 hq.1 rfl d_M_isWord_34 ?_
        refine g_aload_n F d_M_isWord_37 0 rfl ?_
        refine g_getI F fs_8_156 hq.1 rfl d_M_isWord_38 ?_
        refine g_iconst F (v := 1) d_M_isWord_41 (by decide) ?_
        refine g_iadd F d_M_isWord_42 ?_
        refine g_iald F (n := 160) hq.2.2.2.1 d_M_isWord_43 ?_
        refine g_iload_n F d_M_isWord_44 2 rfl ?_
        refine g_icmp_ne F (tgt := 67) d_M_isWord_45 (by decide) (fun h7 => ?_) (fun h8 => ?_)
        · refine g_aload_n F d_M_isWord_48 0 rfl ?_
          refine g_getR F fs_8_16 hq.1 rfl d_M_isWord_49 ?_
          refine g_aload_n F d_M_isWord_52 0 rfl ?_
          refine g_getI F fs_8_156 hq.1 rfl d_M_isWord_53 ?_
          refine g_iconst F (v := 2) d_M_isWord_56 (by decide) ?_
          refine g_iadd F d_M_isWord_57 ?_
          refine g_iald F (n := 160) hq.2.2.2.1 d_M_isWord_58 ?_
          refine g_iload_n F d_M_isWord_59 3 rfl ?_
          refine g_icmp_ne F (tgt := 67) d_M_isWord_60 (by decide) (fun h9 => ?_) (fun h10 => ?_)
          · refine g_iconst F (v := 1) d_M_isWord_63 (by decide) ?_
            refine g_goto F (tgt := 68) d_M_isWord_64 (by decide) ?_
            exact g_zretC F hlk hr (by decide) d_M_isWord_68
          refine g_iconst F (v := 0) d_M_isWord_67 (by decide) ?_
          exact g_zretC F hlk hr (by decide) d_M_isWord_68
        refine g_iconst F (v := 0) d_M_isWord_67 (by decide) ?_
        exact g_zretC F hlk hr (by decide) d_M_isWord_68
      refine g_iconst F (v := 0) d_M_isWord_67 (by decide) ?_
      exact g_zretC F hlk hr (by decide) d_M_isWord_68
    refine g_iconst F (v := 0) d_M_isWord_67 (by decide) ?_
    exact g_zretC F hlk hr (by decide) d_M_isWord_68
  refine g_iconst F (v := 0) d_M_isWord_67 (by decide) ?_
  exact g_zretC F hlk hr (by decide) d_M_isWord_68
def y_M_isLong : MethodName := ⟨"SensorHubModel", "isLong", "(IIIIII)Z"⟩
theorem d_M_isLong_0 : decode prog_10_method_50_code 0 = .ok (.aload_n 0, 1) := by decide +kernel
theorem d_M_isLong_1 : decode prog_10_method_50_code 1 = .ok (.getfield 159, 3) := by decide +kernel
theorem d_M_isLong_4 : decode prog_10_method_50_code 4 = .ok (.ifCond .ne 79, 3) := by decide +kernel
theorem d_M_isLong_7 : decode prog_10_method_50_code 7 = .ok (.aload_n 0, 1) := by decide +kernel
theorem d_M_isLong_8 : decode prog_10_method_50_code 8 = .ok (.getfield 16, 3) := by decide +kernel
theorem d_M_isLong_11 : decode prog_10_method_50_code 11 = .ok (.aload_n 0, 1) := by decide +kernel
theorem d_M_isLong_12 : decode prog_10_method_50_code 12 = .ok (.getfield 156, 3) := by decide +kernel
theorem d_M_isLong_15 : decode prog_10_method_50_code 15 = .ok (.iaload, 1) := by decide +kernel
theorem d_M_isLong_16 : decode prog_10_method_50_code 16 = .ok (.iload_n 1, 1) := by decide +kernel
theorem d_M_isLong_17 : decode prog_10_method_50_code 17 = .ok (.if_icmp .ne 66, 3) := by decide +kernel
theorem d_M_isLong_20 : decode prog_10_method_50_code 20 = .ok (.aload_n 0, 1) := by decide +kernel
theorem d_M_isLong_21 : decode prog_10_method_50_code 21 = .ok (.getfield 150, 3) := by decide +kernel
theorem d_M_isLong_24 : decode prog_10_method_50_code 24 = .ok (.aload_n 0, 1) := by decide +kernel
theorem d_M_isLong_25 : decode prog_10_method_50_code 25 = .ok (.getfield 156, 3) := by decide +kernel
theorem d_M_isLong_28 : decode prog_10_method_50_code 28 = .ok (.isub, 1) := by decide +kernel
theorem d_M_isLong_29 : decode prog_10_method_50_code 29 = .ok (.iconst 3, 1) := by decide +kernel
theorem d_M_isLong_30 : decode prog_10_method_50_code 30 = .ok (.if_icmp .le 53, 3) := by decide +kernel
theorem d_M_isLong_33 : decode prog_10_method_50_code 33 = .ok (.aload_n 0, 1) := by decide +kernel
theorem d_M_isLong_34 : decode prog_10_method_50_code 34 = .ok (.getfield 16, 3) := by decide +kernel
theorem d_M_isLong_37 : decode prog_10_method_50_code 37 = .ok (.aload_n 0, 1) := by decide +kernel
theorem d_M_isLong_38 : decode prog_10_method_50_code 38 = .ok (.getfield 156, 3) := by decide +kernel
theorem d_M_isLong_41 : decode prog_10_method_50_code 41 = .ok (.iconst 1, 1) := by decide +kernel
theorem d_M_isLong_42 : decode prog_10_method_50_code 42 = .ok (.iadd, 1) := by decide +kernel
theorem d_M_isLong_43 : decode prog_10_method_50_code 43 = .ok (.iaload, 1) := by decide +kernel
theorem d_M_isLong_44 : decode prog_10_method_50_code 44 = .ok (.iload_n 2, 1) := by decide +kernel
theorem d_M_isLong_45 : decode prog_10_method_50_code 45 = .ok (.if_icmp .ne 38, 3) := by decide +kernel
theorem d_M_isLong_48 : decode prog_10_method_50_code 48 = .ok (.aload_n 0, 1) := by decide +kernel
theorem d_M_isLong_49 : decode prog_10_method_50_code 49 = .ok (.getfield 16, 3) := by decide +kernel
theorem d_M_isLong_52 : decode prog_10_method_50_code 52 = .ok (.aload_n 0, 1) := by decide +kernel
theorem d_M_isLong_53 : decode prog_10_method_50_code 53 = .ok (.getfield 156, 3) := by decide +kernel
theorem d_M_isLong_56 : decode prog_10_method_50_code 56 = .ok (.iconst 2, 1) := by decide +kernel
theorem d_M_isLong_57 : decode prog_10_method_50_code 57 = .ok (.iadd, 1) := by decide +kernel
theorem d_M_isLong_58 : decode prog_10_method_50_code 58 = .ok (.iaload, 1) := by decide +kernel
theorem d_M_isLong_59 : decode prog_10_method_50_code 59 = .ok (.iload_n 3, 1) := by decide +kernel
theorem d_M_isLong_60 : decode prog_10_method_50_code 60 = .ok (.if_icmp .ne 23, 3) := by decide +kernel
theorem d_M_isLong_63 : decode prog_10_method_50_code 63 = .ok (.aload_n 0, 1) := by decide +kernel
theorem d_M_isLong_64 : decode prog_10_method_50_code 64 = .ok (.getfield 16, 3) := by decide +kernel
theorem d_M_isLong_67 : decode prog_10_method_50_code 67 = .ok (.aload_n 0, 1) := by decide +kernel
theorem d_M_isLong_68 : decode prog_10_method_50_code 68 = .ok (.getfield 156, 3) := by decide +kernel
theorem d_M_isLong_71 : decode prog_10_method_50_code 71 = .ok (.iconst 3, 1) := by decide +kernel
theorem d_M_isLong_72 : decode prog_10_method_50_code 72 = .ok (.iadd, 1) := by decide +kernel
theorem d_M_isLong_73 : decode prog_10_method_50_code 73 = .ok (.iaload, 1) := by decide +kernel
theorem d_M_isLong_74 : decode prog_10_method_50_code 74 = .ok (.iload 4, 2) := by decide +kernel
theorem d_M_isLong_76 : decode prog_10_method_50_code 76 = .ok (.if_icmp .ne 7, 3) := by decide +kernel
theorem d_M_isLong_79 : decode prog_10_method_50_code 79 = .ok (.iconst 1, 1) := by decide +kernel
theorem d_M_isLong_80 : decode prog_10_method_50_code 80 = .ok (.goto 4, 3) := by decide +kernel
theorem d_M_isLong_83 : decode prog_10_method_50_code 83 = .ok (.iconst 0, 1) := by decide +kernel
theorem d_M_isLong_84 : decode prog_10_method_50_code 84 = .ok (.istore 7, 2) := by decide +kernel
theorem d_M_isLong_86 : decode prog_10_method_50_code 86 = .ok (.iload 7, 2) := by decide +kernel
theorem d_M_isLong_88 : decode prog_10_method_50_code 88 = .ok (.ifCond .eq 30, 3) := by decide +kernel
theorem d_M_isLong_91 : decode prog_10_method_50_code 91 = .ok (.aload_n 0, 1) := by decide +kernel
theorem d_M_isLong_92 : decode prog_10_method_50_code 92 = .ok (.getfield 150, 3) := by decide +kernel
theorem d_M_isLong_95 : decode prog_10_method_50_code 95 = .ok (.aload_n 0, 1) := by decide +kernel
theorem d_M_isLong_96 : decode prog_10_method_50_code 96 = .ok (.getfield 156, 3) := by decide +kernel
theorem d_M_isLong_99 : decode prog_10_method_50_code 99 = .ok (.isub, 1) := by decide +kernel
theorem d_M_isLong_100 : decode prog_10_method_50_code 100 = .ok (.iload 6, 2) := by decide +kernel
theorem d_M_isLong_102 : decode prog_10_method_50_code 102 = .ok (.ifCond .le 8, 3) := by decide +kernel
theorem d_M_isLong_105 : decode prog_10_method_50_code 105 = .ok (.bipush 6, 2) := by decide +kernel
theorem d_M_isLong_107 : decode prog_10_method_50_code 107 = .ok (.goto 4, 3) := by decide +kernel
theorem d_M_isLong_110 : decode prog_10_method_50_code 110 = .ok (.iconst 4, 1) := by decide +kernel
theorem d_M_isLong_111 : decode prog_10_method_50_code 111 = .ok (.if_icmp .ne 7, 3) := by decide +kernel
theorem d_M_isLong_114 : decode prog_10_method_50_code 114 = .ok (.iconst 1, 1) := by decide +kernel
theorem d_M_isLong_115 : decode prog_10_method_50_code 115 = .ok (.goto 4, 3) := by decide +kernel
theorem d_M_isLong_118 : decode prog_10_method_50_code 118 = .ok (.iconst 0, 1) := by decide +kernel
theorem d_M_isLong_119 : decode prog_10_method_50_code 119 = .ok (.istore 7, 2) := by decide +kernel
theorem d_M_isLong_121 : decode prog_10_method_50_code 121 = .ok (.iload 7, 2) := by decide +kernel
theorem d_M_isLong_123 : decode prog_10_method_50_code 123 = .ok (.ifCond .eq 44, 3) := by decide +kernel
theorem d_M_isLong_126 : decode prog_10_method_50_code 126 = .ok (.iload 6, 2) := by decide +kernel
theorem d_M_isLong_128 : decode prog_10_method_50_code 128 = .ok (.ifCond .eq 35, 3) := by decide +kernel
theorem d_M_isLong_131 : decode prog_10_method_50_code 131 = .ok (.aload_n 0, 1) := by decide +kernel
theorem d_M_isLong_132 : decode prog_10_method_50_code 132 = .ok (.getfield 16, 3) := by decide +kernel
theorem d_M_isLong_135 : decode prog_10_method_50_code 135 = .ok (.aload_n 0, 1) := by decide +kernel
theorem d_M_isLong_136 : decode prog_10_method_50_code 136 = .ok (.getfield 156, 3) := by decide +kernel
theorem d_M_isLong_139 : decode prog_10_method_50_code 139 = .ok (.iconst 4, 1) := by decide +kernel
theorem d_M_isLong_140 : decode prog_10_method_50_code 140 = .ok (.iadd, 1) := by decide +kernel
theorem d_M_isLong_141 : decode prog_10_method_50_code 141 = .ok (.iaload, 1) := by decide +kernel
theorem d_M_isLong_142 : decode prog_10_method_50_code 142 = .ok (.iload 5, 2) := by decide +kernel
theorem d_M_isLong_144 : decode prog_10_method_50_code 144 = .ok (.if_icmp .ne 23, 3) := by decide +kernel
theorem d_M_isLong_147 : decode prog_10_method_50_code 147 = .ok (.aload_n 0, 1) := by decide +kernel
theorem d_M_isLong_148 : decode prog_10_method_50_code 148 = .ok (.getfield 16, 3) := by decide +kernel
theorem d_M_isLong_151 : decode prog_10_method_50_code 151 = .ok (.aload_n 0, 1) := by decide +kernel
theorem d_M_isLong_152 : decode prog_10_method_50_code 152 = .ok (.getfield 156, 3) := by decide +kernel
theorem d_M_isLong_155 : decode prog_10_method_50_code 155 = .ok (.iconst 5, 1) := by decide +kernel
theorem d_M_isLong_156 : decode prog_10_method_50_code 156 = .ok (.iadd, 1) := by decide +kernel
theorem d_M_isLong_157 : decode prog_10_method_50_code 157 = .ok (.iaload, 1) := by decide +kernel
theorem d_M_isLong_158 : decode prog_10_method_50_code 158 = .ok (.iload 6, 2) := by decide +kernel
theorem d_M_isLong_160 : decode prog_10_method_50_code 160 = .ok (.if_icmp .ne 7, 3) := by decide +kernel
theorem d_M_isLong_163 : decode prog_10_method_50_code 163 = .ok (.iconst 1, 1) := by decide +kernel
theorem d_M_isLong_164 : decode prog_10_method_50_code 164 = .ok (.goto 4, 3) := by decide +kernel
theorem d_M_isLong_167 : decode prog_10_method_50_code 167 = .ok (.iconst 0, 1) := by decide +kernel
theorem d_M_isLong_168 : decode prog_10_method_50_code 168 = .ok (.ireturn, 1) := by decide +kernel
def f_M_isLong (q : Nat) (p1 : Int32) (p2 : Int32) (p3 : Int32) (p4 : Int32) (p5 : Int32) (p6 : Int32) (σ : Mem) : Option (Int32 × Mem) :=
  if (σ q 13) = 0 then
    if ib (σ q 12) 160 then
      if (σ (q + 3) (σ q 12).toNatClampNeg) = p1 then
        if ((σ q 11) - (σ q 12)) ≤ (3 : Int32) then
          some ((0 : Int32), σ)
        else
          if ib ((σ q 12) + (1 : Int32)) 160 then
            if (σ (q + 3) ((σ q 12) + (1 : Int32)).toNatClampNeg) = p2 then
              if ib ((σ q 12) + (2 : Int32)) 160 then
                if (σ (q + 3) ((σ q 12) + (2 : Int32)).toNatClampNeg) = p3 then
                  if ib ((σ q 12) + (3 : Int32)) 160 then
                    if (σ (q + 3) ((σ q 12) + (3 : Int32)).toNatClampNeg) = p4 then
                      if p6 ≤ 0 then
                        if ((σ q 11) - (σ q 12)) = (4 : Int32) then
                          if p6 = 0 then
                            some ((1 : Int32), σ)
                          else
                            if ib ((σ q 12) + (4 : Int32)) 160 then
                              if (σ (q + 3) ((σ q 12) + (4 : Int32)).toNatClampNeg) = p5 then
                                if ib ((σ q 12) + (5 : Int32)) 160 then
                                  if (σ (q + 3) ((σ q 12) + (5 : Int32)).toNatClampNeg) = p6 then some ((1 : Int32), σ) else some ((0 : Int32), σ)
                                else none
                              else
                                some ((0 : Int32), σ)
                            else none
                        else
                          some ((0 : Int32), σ)
                      else
                        if ((σ q 11) - (σ q 12)) = (6 : Int32) then
                          if p6 = 0 then
                            some ((1 : Int32), σ)
                          else
                            if ib ((σ q 12) + (4 : Int32)) 160 then
                              if (σ (q + 3) ((σ q 12) + (4 : Int32)).toNatClampNeg) = p5 then
                                if ib ((σ q 12) + (5 : Int32)) 160 then
                                  if (σ (q + 3) ((σ q 12) + (5 : Int32)).toNatClampNeg) = p6 then some ((1 : Int32), σ) else some ((0 : Int32), σ)
                                else none
                              else
                                some ((0 : Int32), σ)
                            else none
                        else
                          some ((0 : Int32), σ)
                    else
                      some ((0 : Int32), σ)
                  else none
                else
                  some ((0 : Int32), σ)
              else none
            else
              some ((0 : Int32), σ)
          else none
      else
        some ((0 : Int32), σ)
    else none
  else
    some ((0 : Int32), σ)
set_option maxRecDepth 100000 in
set_option maxHeartbeats 4000000 in
theorem c_M_isLong {X : CX} (l : Launch) (q : Nat) (p1 : Int32) (p2 : Int32) (p3 : Int32) (p4 : Int32) (p5 : Int32) (p6 : Int32) (hq : ModelOK X q) (σ : Mem) : CT X l y_M_isLong prog_10_method_50_code 8 (some .boolean) 0 vI [.ref (xa X q), .int p1, .int p2, .int p3, .int p4, .int p5, .int p6] σ (f_M_isLong q p1 p2 p3 p4 p5 p6 σ) := by
  refine CT_of (by decide +kernel) (Nat.le_of_ble_eq_true rfl) ?_
  intro p e s m args below meth c F hlk hr
  have F : FR p s m args c prog_10_method_50_code 8 "SensorHubModel" X := F
  show G X p l e (rmD 0) s m args below meth c 8 0 0 (QI X below args s vI) 0 [(0, .ref (xa X q)), (1, .int p1), (2, .int p2), (3, .int p3), (4, .int p4), (5, .int p5), (6, .int p6)] [] σ _
  unfold f_M_isLong
  refine g_aload_n F d_M_isLong_0 0 rfl ?_
  refine g_getI F fs_8_159 hq.1 rfl d_M_isLong_1 ?_
  refine g_if_ne F (tgt := 83) d_M_isLong_4 (by decide) (fun h1 => ?_) (fun h2 => ?_)
  · refine g_aload_n F d_M_isLong_7 0 rfl ?_
    refine g_getR F fs_8_16 hq.1 rfl d_M_isLong_8 ?_
    refine g_aload_n F d_M_isLong_11 0 rfl ?_
    refine g_getI F fs_8_156 hq.1 rfl d_M_isLong_12 ?_
    refine g_iald F (n := 160) hq.2.2.2.1 d_M_isLong_15 ?_
    refine g_iload_n F d_M_isLong_16 1 rfl ?_
    refine g_icmp_ne F (tgt := 83) d_M_isLong_17 (by decide) (fun h3 => ?_) (fun h4 => ?_)
    · refine g_aload_n F d_M_isLong_20 0 rfl ?_
      refine g_getI F fs_8_150 hq.1 rfl d_M_isLong_21 ?_
      refine g_aload_n F d_M_isLong_24 0 rfl ?_
      refine g_getI F fs_8_156 hq.1 rfl d_M_isLong_25 ?_
      refine g_isub F d_M_isLong_28 ?_
      refine g_iconst F (v := 3) d_M_isLong_29 (by decide) ?_
      refine g_icmp_le F (tgt := 83) d_M_isLong_30 (by decide) (fun h5 => ?_) (fun h6 => ?_)
      · refine g_iconst F (v := 0) d_M_isLong_83 (by decide) ?_
        refine g_istore F (ls' := [(7, .int (0 : Int32)), (0, .ref (xa X q)), (1, .int p1), (2, .int p2), (3, .int p3), (4, .int p4), (5, .int p5), (6, .int p6)]) d_M_isLong_84 (by decide) rfl ?_
        refine g_iload F d_M_isLong_86 0 rfl ?_
        refine g_pt (q := (0 : Int32) = 0) (by decide) (g_if_eq F (tgt := 118) d_M_isLong_88 (by decide) (fun _ => ?_) (fun _ => g_no))
        refine g_iconst F (v := 0) d_M_isLong_118 (by decide) ?_
        refine g_istore F (ls' := [(7, .int (0 : Int32)), (0, .ref (xa X q)), (1, .int p1), (2, .int p2), (3, .int p3), (4, .int p4), (5, .int p5), (6, .int p6)]) d_M_isLong_119 (by decide) rfl ?_
        refine g_iload F d_M_isLong_121 0 rfl ?_
        refine g_pt (q := (0 : Int32) = 0) (by decide) (g_if_eq F (tgt := 167) d_M_isLong_123 (by decide) (fun _ => ?_) (fun _ => g_no))
        refine g_iconst F (v := 0) d_M_isLong_167 (by decide) ?_
        exact g_zretC F hlk hr (by decide) d_M_isLong_168
      refine g_aload_n F d_M_isLong_33 0 rfl ?_
      refine g_getR F fs_8_16 hq.1 rfl d_M_isLong_34 ?_
      refine g_aload_n F d_M_isLong_37 0 rfl ?_
      refine g_getI F fs_8_156 hq.1 rfl d_M_isLong_38 ?_
      refine g_iconst F (v := 1) d_M_isLong_41 (by decide) ?_
      refine g_iadd F d_M_isLong_42 ?_
      refine g_iald F (n := 160) hq.2.2.2.1 d_M_isLong_43 ?_
      refine g_iload_n F d_M_isLong_44 2 rfl ?_
      refine g_icmp_ne F (tgt := 83) d_M_isLong_45 (by decide) (fun h7 => ?_) (fun h8 => ?_)
      · refine g_aload_n F d_M_isLong_48 0 rfl ?_
        refine g_getR F fs_8_16 hq.1 rfl d_M_isLong_49 ?_
        refine g_aload_n F d_M_isLong_52 0 rfl ?_
        refine g_getI F fs_8_156 hq.1 rfl d_M_isLong_53 ?_
        refine g_iconst F (v := 2) d_M_isLong_56 (by decide) ?_
        refine g_iadd F d_M_isLong_57 ?_
        refine g_iald F (n := 160) hq.2.2.2.1 d_M_isLong_58 ?_
        refine g_iload_n F d_M_isLong_59 3 rfl ?_
        refine g_icmp_ne F (tgt := 83) d_M_isLong_60 (by decide) (fun h9 => ?_) (fun h10 => ?_)
        · refine g_aload_n F d_M_isLong_63 0 rfl ?_
          refine g_getR F fs_8_16 hq.1 rfl d_M_isLong_64 ?_
          refine g_aload_n F d_M_isLong_67 0 rfl ?_
          refine g_getI F fs_8_156 hq.1 rfl d_M_isLong_68 ?_
          refine g_iconst F (v := 3) d_M_isLong_71 (by decide) ?_
          refine g_iadd F d_M_isLong_72 ?_
          refine g_iald F (n := 160) hq.2.2.2.1 d_M_isLong_73 ?_
          refine g_iload F d_M_isLong_74 4 rfl ?_
          refine g_icmp_ne F (tgt := 83) d_M_isLong_76 (by decide) (fun h11 => ?_) (fun h12 => ?_)
          · refine g_iconst F (v := 1) d_M_isLong_79 (by decide) ?_
            refine g_goto F (tgt := 84) d_M_isLong_80 (by decide) ?_
            refine g_istore F (ls' := [(7, .int (1 : Int32)), (0, .ref (xa X q)), (1, .int p1), (2, .int p2), (3, .int p3), (4, .int p4), (5, .int p5), (6, .int p6)]) d_M_isLong_84 (by decide) rfl ?_
            refine g_iload F d_M_isLong_86 0 rfl ?_
            refine g_pf (q := (1 : Int32) = 0) (by decide) (g_if_eq F (tgt := 118) d_M_isLong_88 (by decide) (fun _ => g_no) (fun _ => ?_))
            refine g_aload_n F d_M_isLong_91 1 rfl ?_
            refine g_getI F fs_8_150 hq.1 rfl d_M_isLong_92 ?_
            refine g_aload_n F d_M_isLong_95 1 rfl ?_
            refine g_getI F fs_8_156 hq.1 rfl d_M_isLong_96 ?_
            refine g_isub F d_M_isLong_99 ?_
            refine g_iload F d_M_isLong_100 7 rfl ?_
            refine g_if_le F (tgt := 110) d_M_isLong_102 (by decide) (fun h13 => ?_) (fun h14 => ?_)
            · refine g_iconst F (v := 4) d_M_isLong_110 (by decide) ?_
              refine g_icmp_ne F (tgt := 118) d_M_isLong_111 (by decide) (fun h15 => ?_) (fun h16 => ?_)
              · refine g_iconst F (v := 1) d_M_isLong_114 (by decide) ?_
                refine g_goto F (tgt := 119) d_M_isLong_115 (by decide) ?_
                refine g_istore F (ls' := [(7, .int (1 : Int32)), (0, .ref (xa X q)), (1, .int p1), (2, .int p2), (3, .int p3), (4, .int p4), (5, .int p5), (6, .int p6)]) d_M_isLong_119 (by decide) rfl ?_
                refine g_iload F d_M_isLong_121 0 rfl ?_
                refine g_pf (q := (1 : Int32) = 0) (by decide) (g_if_eq F (tgt := 167) d_M_isLong_123 (by decide) (fun _ => g_no) (fun _ => ?_))
                refine g_iload F d_M_isLong_126 7 rfl ?_
                refine g_if_eq F (tgt := 163) d_M_isLong_128 (by decide) (fun h17 => ?_) (fun h18 => ?_)
                · refine g_iconst F (v := 1) d_M_isLong_163 (by decide) ?_
                  refine g_goto F (tgt := 168) d_M_isLong_164 (by decide) ?_
                  exact g_zretC F hlk hr (by decide) d_M_isLong_168
                refine g_aload_n F d_M_isLong_131 1 rfl ?_
                refine g_getR F fs_8_16 hq.1 rfl d_M_isLong_132 ?_
                refine g_aload_n F d_M_isLong_135 1 rfl ?_
                refine g_getI F fs_8_156 hq.1 rfl d_M_isLong_136 ?_
                refine g_iconst F (v := 4) d_M_isLong_139 (by decide) ?_
                refine g_iadd F d_M_isLong_140 ?_
                refine g_iald F (n := 160) hq.2.2.2.1 d_M_isLong_141 ?_
                refine g_iload F d_M_isLong_142 6 rfl ?_
                refine g_icmp_ne F (tgt := 167) d_M_isLong_144 (by decide) (fun h19 => ?_) (fun h20 => ?_)
                · refine g_aload_n F d_M_isLong_147 1 rfl ?_
                  refine g_getR F fs_8_16 hq.1 rfl d_M_isLong_148 ?_
                  refine g_aload_n F d_M_isLong_151 1 rfl ?_
                  refine g_getI F fs_8_156 hq.1 rfl d_M_isLong_152 ?_
                  refine g_iconst F (v := 5) d_M_isLong_155 (by decide) ?_
                  refine g_iadd F d_M_isLong_156 ?_
                  refine g_iald F (n := 160) hq.2.2.2.1 d_M_isLong_157 ?_
                  refine g_iload F d_M_isLong_158 7 rfl ?_
                  refine g_icmp_ne F (tgt := 167) d_M_isLong_160 (by decide) (fun h21 => ?_) (fun h22 => ?_)
                  · refine g_iconst F (v := 1) d_M_isLong_163 (by decide) ?_
                    refine g_goto F (tgt := 168) d_M_isLong_164 (by decide) ?_
                    exact g_zretC F hlk hr (by decide) d_M_isLong_168
                  refine g_iconst F (v := 0) d_M_isLong_167 (by decide) ?_
                  exact g_zretC F hlk hr (by decide) d_M_isLong_168
                refine g_iconst F (v := 0) d_M_isLong_167 (by decide) ?_
                exact g_zretC F hlk hr (by decide) d_M_isLong_168
              refine g_iconst F (v := 0) d_M_isLong_118 (by decide) ?_
              refine g_istore F (ls' := [(7, .int (0 : Int32)), (0, .ref (xa X q)), (1, .int p1), (2, .int p2), (3, .int p3), (4, .int p4), (5, .int p5), (6, .int p6)]) d_M_isLong_119 (by decide) rfl ?_
              refine g_iload F d_M_isLong_121 0 rfl ?_
              refine g_pt (q := (0 : Int32) = 0) (by decide) (g_if_eq F (tgt := 167) d_M_isLong_123 (by decide) (fun _ => ?_) (fun _ => g_no))
              refine g_iconst F (v := 0) d_M_isLong_167 (by decide) ?_
              exact g_zretC F hlk hr (by decide) d_M_isLong_168
            refine g_bipush F (v := 6) d_M_isLong_105 (by decide) ?_
            refine g_goto F (tgt := 111) d_M_isLong_107 (by decide) ?_
            refine g_icmp_ne F (tgt := 118) d_M_isLong_111 (by decide) (fun h23 => ?_) (fun h24 => ?_)
            · refine g_iconst F (v := 1) d_M_isLong_114 (by decide) ?_
              refine g_goto F (tgt := 119) d_M_isLong_115 (by decide) ?_
              refine g_istore F (ls' := [(7, .int (1 : Int32)), (0, .ref (xa X q)), (1, .int p1), (2, .int p2), (3, .int p3), (4, .int p4), (5, .int p5), (6, .int p6)]) d_M_isLong_119 (by decide) rfl ?_
              refine g_iload F d_M_isLong_121 0 rfl ?_
              refine g_pf (q := (1 : Int32) = 0) (by decide) (g_if_eq F (tgt := 167) d_M_isLong_123 (by decide) (fun _ => g_no) (fun _ => ?_))
              refine g_iload F d_M_isLong_126 7 rfl ?_
              refine g_if_eq F (tgt := 163) d_M_isLong_128 (by decide) (fun h25 => ?_) (fun h26 => ?_)
              · refine g_iconst F (v := 1) d_M_isLong_163 (by decide) ?_
                refine g_goto F (tgt := 168) d_M_isLong_164 (by decide) ?_
                exact g_zretC F hlk hr (by decide) d_M_isLong_168
              refine g_aload_n F d_M_isLong_131 1 rfl ?_
              refine g_getR F fs_8_16 hq.1 rfl d_M_isLong_132 ?_
              refine g_aload_n F d_M_isLong_135 1 rfl ?_
              refine g_getI F fs_8_156 hq.1 rfl d_M_isLong_136 ?_
              refine g_iconst F (v := 4) d_M_isLong_139 (by decide) ?_
              refine g_iadd F d_M_isLong_140 ?_
              refine g_iald F (n := 160) hq.2.2.2.1 d_M_isLong_141 ?_
              refine g_iload F d_M_isLong_142 6 rfl ?_
              refine g_icmp_ne F (tgt := 167) d_M_isLong_144 (by decide) (fun h27 => ?_) (fun h28 => ?_)
              · refine g_aload_n F d_M_isLong_147 1 rfl ?_
                refine g_getR F fs_8_16 hq.1 rfl d_M_isLong_148 ?_
                refine g_aload_n F d_M_isLong_151 1 rfl ?_
                refine g_getI F fs_8_156 hq.1 rfl d_M_isLong_152 ?_
                refine g_iconst F (v := 5) d_M_isLong_155 (by decide) ?_
                refine g_iadd F d_M_isLong_156 ?_
                refine g_iald F (n := 160) hq.2.2.2.1 d_M_isLong_157 ?_
                refine g_iload F d_M_isLong_158 7 rfl ?_
                refine g_icmp_ne F (tgt := 167) d_M_isLong_160 (by decide) (fun h29 => ?_) (fun h30 => ?_)
                · refine g_iconst F (v := 1) d_M_isLong_163 (by decide) ?_
                  refine g_goto F (tgt := 168) d_M_isLong_164 (by decide) ?_
                  exact g_zretC F hlk hr (by decide) d_M_isLong_168
                refine g_iconst F (v := 0) d_M_isLong_167 (by decide) ?_
                exact g_zretC F hlk hr (by decide) d_M_isLong_168
              refine g_iconst F (v := 0) d_M_isLong_167 (by decide) ?_
              exact g_zretC F hlk hr (by decide) d_M_isLong_168
            refine g_iconst F (v := 0) d_M_isLong_118 (by decide) ?_
            refine g_istore F (ls' := [(7, .int (0 : Int32)), (0, .ref (xa X q)), (1, .int p1), (2, .int p2), (3, .int p3), (4, .int p4), (5, .int p5), (6, .int p6)]) d_M_isLong_119 (by decide) rfl ?_
            refine g_iload F d_M_isLong_121 0 rfl ?_
            refine g_pt (q := (0 : Int32) = 0) (by decide) (g_if_eq F (tgt := 167) d_M_isLong_123 (by decide) (fun _ => ?_) (fun _ => g_no))
            refine g_iconst F (v := 0) d_M_isLong_167 (by decide) ?_
            exact g_zretC F hlk hr (by decide) d_M_isLong_168
          refine g_iconst F (v := 0) d_M_isLong_83 (by decide) ?_
          refine g_istore F (ls' := [(7, .int (0 : Int32)), (0, .ref (xa X q)), (1, .int p1), (2, .int p2), (3, .int p3), (4, .int p4), (5, .int p5), (6, .int p6)]) d_M_isLong_84 (by decide) rfl ?_
          refine g_iload F d_M_isLong_86 0 rfl ?_
          refine g_pt (q := (0 : Int32) = 0) (by decide) (g_if_eq F (tgt := 118) d_M_isLong_88 (by decide) (fun _ => ?_) (fun _ => g_no))
          refine g_iconst F (v := 0) d_M_isLong_118 (by decide) ?_
          refine g_istore F (ls' := [(7, .int (0 : Int32)), (0, .ref (xa X q)), (1, .int p1), (2, .int p2), (3, .int p3), (4, .int p4), (5, .int p5), (6, .int p6)]) d_M_isLong_119 (by decide) rfl ?_
          refine g_iload F d_M_isLong_121 0 rfl ?_
          refine g_pt (q := (0 : Int32) = 0) (by decide) (g_if_eq F (tgt := 167) d_M_isLong_123 (by decide) (fun _ => ?_) (fun _ => g_no))
          refine g_iconst F (v := 0) d_M_isLong_167 (by decide) ?_
          exact g_zretC F hlk hr (by decide) d_M_isLong_168
        refine g_iconst F (v := 0) d_M_isLong_83 (by decide) ?_
        refine g_istore F (ls' := [(7, .int (0 : Int32)), (0, .ref (xa X q)), (1, .int p1), (2, .int p2), (3, .int p3), (4, .int p4), (5, .int p5), (6, .int p6)]) d_M_isLong_84 (by decide) rfl ?_
        refine g_iload F d_M_isLong_86 0 rfl ?_
        refine g_pt (q := (0 : Int32) = 0) (by decide) (g_if_eq F (tgt := 118) d_M_isLong_88 (by decide) (fun _ => ?_) (fun _ => g_no))
        refine g_iconst F (v := 0) d_M_isLong_118 (by decide) ?_
        refine g_istore F (ls' := [(7, .int (0 : Int32)), (0, .ref (xa X q)), (1, .int p1), (2, .int p2), (3, .int p3), (4, .int p4), (5, .int p5), (6, .int p6)]) d_M_isLong_119 (by decide) rfl ?_
        refine g_iload F d_M_isLong_121 0 rfl ?_
        refine g_pt (q := (0 : Int32) = 0) (by decide) (g_if_eq F (tgt := 167) d_M_isLong_123 (by decide) (fun _ => ?_) (fun _ => g_no))
        refine g_iconst F (v := 0) d_M_isLong_167 (by decide) ?_
        exact g_zretC F hlk hr (by decide) d_M_isLong_168
      refine g_iconst F (v := 0) d_M_isLong_83 (by decide) ?_
      refine g_istore F (ls' := [(7, .int (0 : Int32)), (0, .ref (xa X q)), (1, .int p1), (2, .int p2), (3, .int p3), (4, .int p4), (5, .int p5), (6, .int p6)]) d_M_isLong_84 (by decide) rfl ?_
      refine g_iload F d_M_isLong_86 0 rfl ?_
      refine g_pt (q := (0 : Int32) = 0) (by decide) (g_if_eq F (tgt := 118) d_M_isLong_88 (by decide) (fun _ => ?_) (fun _ => g_no))
      refine g_iconst F (v := 0) d_M_isLong_118 (by decide) ?_
      refine g_istore F (ls' := [(7, .int (0 : Int32)), (0, .ref (xa X q)), (1, .int p1), (2, .int p2), (3, .int p3), (4, .int p4), (5, .int p5), (6, .int p6)]) d_M_isLong_119 (by decide) rfl ?_
      refine g_iload F d_M_isLong_121 0 rfl ?_
      refine g_pt (q := (0 : Int32) = 0) (by decide) (g_if_eq F (tgt := 167) d_M_isLong_123 (by decide) (fun _ => ?_) (fun _ => g_no))
      refine g_iconst F (v := 0) d_M_isLong_167 (by decide) ?_
      exact g_zretC F hlk hr (by decide) d_M_isLong_168
    refine g_iconst F (v := 0) d_M_isLong_83 (by decide) ?_
    refine g_istore F (ls' := [(7, .int (0 : Int32)), (0, .ref (xa X q)), (1, .int p1), (2, .int p2), (3, .int p3), (4, .int p4), (5, .int p5), (6, .int p6)]) d_M_isLong_84 (by decide) rfl ?_
    refine g_iload F d_M_isLong_86 0 rfl ?_
    refine g_pt (q := (0 : Int32) = 0) (by decide) (g_if_eq F (tgt := 118) d_M_isLong_88 (by decide) (fun _ => ?_) (fun _ => g_no))
    refine g_iconst F (v := 0) d_M_isLong_118 (by decide) ?_
    refine g_istore F (ls' := [(7, .int (0 : Int32)), (0, .ref (xa X q)), (1, .int p1), (2, .int p2), (3, .int p3), (4, .int p4), (5, .int p5), (6, .int p6)]) d_M_isLong_119 (by decide) rfl ?_
    refine g_iload F d_M_isLong_121 0 rfl ?_
    refine g_pt (q := (0 : Int32) = 0) (by decide) (g_if_eq F (tgt := 167) d_M_isLong_123 (by decide) (fun _ => ?_) (fun _ => g_no))
    refine g_iconst F (v := 0) d_M_isLong_167 (by decide) ?_
    exact g_zretC F hlk hr (by decide) d_M_isLong_168
  refine g_iconst F (v := 0) d_M_isLong_83 (by decide) ?_
  refine g_istore F (ls' := [(7, .int (0 : Int32)), (0, .ref (xa X q)), (1, .int p1), (2, .int p2), (3, .int p3), (4, .int p4), (5, .int p5), (6, .int p6)]) d_M_isLong_84 (by decide) rfl ?_
  refine g_iload F d_M_isLong_86 0 rfl ?_
  refine g_pt (q := (0 : Int32) = 0) (by decide) (g_if_eq F (tgt := 118) d_M_isLong_88 (by decide) (fun _ => ?_) (fun _ => g_no))
  refine g_iconst F (v := 0) d_M_isLong_118 (by decide) ?_
  refine g_istore F (ls' := [(7, .int (0 : Int32)), (0, .ref (xa X q)), (1, .int p1), (2, .int p2), (3, .int p3), (4, .int p4), (5, .int p5), (6, .int p6)]) d_M_isLong_119 (by decide) rfl ?_
  refine g_iload F d_M_isLong_121 0 rfl ?_
  refine g_pt (q := (0 : Int32) = 0) (by decide) (g_if_eq F (tgt := 167) d_M_isLong_123 (by decide) (fun _ => ?_) (fun _ => g_no))
  refine g_iconst F (v := 0) d_M_isLong_167 (by decide) ?_
  exact g_zretC F hlk hr (by decide) d_M_isLong_168
def y_M_take_II : MethodName := ⟨"SensorHubModel", "take", "(II)I"⟩
theorem d_M_take_II_0 : decode prog_10_method_51_code 0 = .ok (.aload_n 0, 1) := by decide +kernel
theorem d_M_take_II_1 : decode prog_10_method_51_code 1 = .ok (.getfield 165, 3) := by decide +kernel
theorem d_M_take_II_4 : decode prog_10_method_51_code 4 = .ok (.ifCond .ne 23, 3) := by decide +kernel
theorem d_M_take_II_7 : decode prog_10_method_51_code 7 = .ok (.aload_n 0, 1) := by decide +kernel
theorem d_M_take_II_8 : decode prog_10_method_51_code 8 = .ok (.getfield 159, 3) := by decide +kernel
theorem d_M_take_II_11 : decode prog_10_method_51_code 11 = .ok (.iconst 1, 1) := by decide +kernel
theorem d_M_take_II_12 : decode prog_10_method_51_code 12 = .ok (.if_icmp .ne 15, 3) := by decide +kernel
theorem d_M_take_II_15 : decode prog_10_method_51_code 15 = .ok (.aload_n 0, 1) := by decide +kernel
theorem d_M_take_II_16 : decode prog_10_method_51_code 16 = .ok (.getfield 162, 3) := by decide +kernel
theorem d_M_take_II_19 : decode prog_10_method_51_code 19 = .ok (.iload_n 1, 1) := by decide +kernel
theorem d_M_take_II_20 : decode prog_10_method_51_code 20 = .ok (.iload_n 2, 1) := by decide +kernel
theorem d_M_take_II_21 : decode prog_10_method_51_code 21 = .ok (.invokestatic 42, 3) := by decide +kernel
theorem d_M_take_II_24 : decode prog_10_method_51_code 24 = .ok (.ifCond .ne 10, 3) := by decide +kernel
theorem d_M_take_II_27 : decode prog_10_method_51_code 27 = .ok (.aload_n 0, 1) := by decide +kernel
theorem d_M_take_II_28 : decode prog_10_method_51_code 28 = .ok (.iconst 1, 1) := by decide +kernel
theorem d_M_take_II_29 : decode prog_10_method_51_code 29 = .ok (.putfield 165, 3) := by decide +kernel
theorem d_M_take_II_32 : decode prog_10_method_51_code 32 = .ok (.iconst 0, 1) := by decide +kernel
theorem d_M_take_II_33 : decode prog_10_method_51_code 33 = .ok (.ireturn, 1) := by decide +kernel
theorem d_M_take_II_34 : decode prog_10_method_51_code 34 = .ok (.aload_n 0, 1) := by decide +kernel
theorem d_M_take_II_35 : decode prog_10_method_51_code 35 = .ok (.getfield 162, 3) := by decide +kernel
theorem d_M_take_II_38 : decode prog_10_method_51_code 38 = .ok (.istore_n 3, 1) := by decide +kernel
theorem d_M_take_II_39 : decode prog_10_method_51_code 39 = .ok (.aload_n 0, 1) := by decide +kernel
theorem d_M_take_II_40 : decode prog_10_method_51_code 40 = .ok (.invokevirtual 169, 3) := by decide +kernel
theorem d_M_take_II_43 : decode prog_10_method_51_code 43 = .ok (.iload_n 3, 1) := by decide +kernel
theorem d_M_take_II_44 : decode prog_10_method_51_code 44 = .ok (.ireturn, 1) := by decide +kernel
theorem fs_8_165 : FS "SensorHubModel" 165 8 15 := ⟨"SensorHubModel", T_8, 16, rfl, by decide, rfl, gw_I 907 (by decide +kernel) rfl⟩
theorem fw_8_165 : FW "SensorHubModel" 165 8 15 .boolean := ⟨"SensorHubModel", T_8, 16, rfl, by decide, rfl, gw_I 907 (by decide +kernel) rfl, rfl, by decide +kernel⟩
theorem cv_8_169 : CSV "SensorHubModel" 169 y_M_read prog_10_method_48_code 2 none 0 := ⟨gw_I 1068 (by decide +kernel) rfl, gw_I 1070 (by decide +kernel) rfl, gw_I 47 (by decide +kernel) rfl, gw_I 78 (by decide +kernel) rfl, gw_I 1071 (by decide +kernel) rfl, ⟨by decide +kernel, by decide +kernel⟩, by decide +kernel⟩
def f_M_take_II (q : Nat) (p1 : Int32) (p2 : Int32) (σ : Mem) : Option (Int32 × Mem) :=
  if (σ q 15) = 0 then
    if (σ q 13) = (1 : Int32) then
      bd (f_M_in (σ q 14) p1 p2 σ) fun r1 σ2 =>
      if r1 = 0 then
        lt (wr σ2 q 15 (1 : Int32)) fun σ3 =>
        some ((0 : Int32), σ3)
      else
        lt (σ2 q 14) fun v4 =>
        bd (f_M_read q σ2) fun _ σ6 =>
        some (v4, σ6)
    else
      lt (wr σ q 15 (1 : Int32)) fun σ7 =>
      some ((0 : Int32), σ7)
  else
    lt (wr σ q 15 (1 : Int32)) fun σ8 =>
    some ((0 : Int32), σ8)
set_option maxRecDepth 100000 in
set_option maxHeartbeats 4000000 in
theorem c_M_take_II {X : CX} (l : Launch) (q : Nat) (p1 : Int32) (p2 : Int32) (hq : ModelOK X q) (σ : Mem) : CT X l y_M_take_II prog_10_method_51_code 4 (some .int) 2 vI [.ref (xa X q), .int p1, .int p2] σ (f_M_take_II q p1 p2 σ) := by
  refine CT_of (by decide +kernel) (Nat.le_of_ble_eq_true rfl) ?_
  intro p e s m args below meth c F hlk hr
  have F : FR p s m args c prog_10_method_51_code 4 "SensorHubModel" X := F
  show G X p l e (rmD 2) s m args below meth c 4 0 0 (QI X below args s vI) 0 [(0, .ref (xa X q)), (1, .int p1), (2, .int p2)] [] σ _
  unfold f_M_take_II
  refine g_aload_n F d_M_take_II_0 0 rfl ?_
  refine g_getI F fs_8_165 hq.1 rfl d_M_take_II_1 ?_
  refine g_if_ne F (tgt := 27) d_M_take_II_4 (by decide) (fun h1 => ?_) (fun h2 => ?_)
  · refine g_aload_n F d_M_take_II_7 0 rfl ?_
    refine g_getI F fs_8_159 hq.1 rfl d_M_take_II_8 ?_
    refine g_iconst F (v := 1) d_M_take_II_11 (by decide) ?_
    refine g_icmp_ne F (tgt := 27) d_M_take_II_12 (by decide) (fun h3 => ?_) (fun h4 => ?_)
    · refine g_aload_n F d_M_take_II_15 0 rfl ?_
      refine g_getI F fs_8_162 hq.1 rfl d_M_take_II_16 ?_
      refine g_iload_n F d_M_take_II_19 1 rfl ?_
      refine g_iload_n F d_M_take_II_20 2 rfl ?_
      refine g_callS F (dp := 0) (As := [.int (σ q 14), .int p1, .int p2]) (c_M_in l _ _ _ _) cs_8_42 rfl rfl (Nat.le_of_ble_eq_true rfl) ⟨Nat.le_of_ble_eq_true rfl, Nat.le_of_ble_eq_true rfl⟩ ⟨Nat.zero_le _, Nat.zero_le _⟩ d_M_take_II_21 (fun r1 σ2 h5 => ?_)
      refine g_if_ne F (tgt := 34) d_M_take_II_24 (by decide) (fun h6 => ?_) (fun h7 => ?_)
      · refine g_aload_n F d_M_take_II_27 0 rfl ?_
        refine g_iconst F (v := 1) d_M_take_II_28 (by decide) ?_
        refine g_pt (q := (1 : Int32) &&& 1 = (1 : Int32)) (by decide) (g_putZ F fw_8_165 hq.1 rfl d_M_take_II_29 ?_)
        refine g_ltM (fun σ3 _ => ?_)
        refine g_iconst F (v := 0) d_M_take_II_32 (by decide) ?_
        exact g_iret F hlk hr d_M_take_II_33
      refine g_aload_n F d_M_take_II_34 0 rfl ?_
      refine g_getI F fs_8_162 hq.1 rfl d_M_take_II_35 ?_
      refine g_ltI (fun v4 _ => ?_)
      refine g_istore_n F (ls' := [(3, .int v4), (0, .ref (xa X q)), (1, .int p1), (2, .int p2)]) d_M_take_II_38 (by decide) rfl ?_
      refine g_aload_n F d_M_take_II_39 1 rfl ?_
      refine g_callV F (dp := 1) (ci := 8) (As := []) (c_M_read l _ hq _) cv_8_169 hq.1 rfl rfl rfl (Nat.le_of_ble_eq_true rfl) ⟨Nat.le_of_ble_eq_true rfl, Nat.le_of_ble_eq_true rfl⟩ ⟨Nat.zero_le _, Nat.zero_le _⟩ d_M_take_II_40 (fun _ σ6 h8 => ?_)
      refine g_iload_n F d_M_take_II_43 0 rfl ?_
      exact g_iret F hlk hr d_M_take_II_44
    refine g_aload_n F d_M_take_II_27 0 rfl ?_
    refine g_iconst F (v := 1) d_M_take_II_28 (by decide) ?_
    refine g_pt (q := (1 : Int32) &&& 1 = (1 : Int32)) (by decide) (g_putZ F fw_8_165 hq.1 rfl d_M_take_II_29 ?_)
    refine g_ltM (fun σ7 _ => ?_)
    refine g_iconst F (v := 0) d_M_take_II_32 (by decide) ?_
    exact g_iret F hlk hr d_M_take_II_33
  refine g_aload_n F d_M_take_II_27 0 rfl ?_
  refine g_iconst F (v := 1) d_M_take_II_28 (by decide) ?_
  refine g_pt (q := (1 : Int32) &&& 1 = (1 : Int32)) (by decide) (g_putZ F fw_8_165 hq.1 rfl d_M_take_II_29 ?_)
  refine g_ltM (fun σ8 _ => ?_)
  refine g_iconst F (v := 0) d_M_take_II_32 (by decide) ?_
  exact g_iret F hlk hr d_M_take_II_33
def y_M_take_Z : MethodName := ⟨"SensorHubModel", "take", "(Z)V"⟩
theorem d_M_take_Z_0 : decode prog_10_method_52_code 0 = .ok (.aload_n 0, 1) := by decide +kernel
theorem d_M_take_Z_1 : decode prog_10_method_52_code 1 = .ok (.aload_n 0, 1) := by decide +kernel
theorem d_M_take_Z_2 : decode prog_10_method_52_code 2 = .ok (.getfield 165, 3) := by decide +kernel
theorem d_M_take_Z_5 : decode prog_10_method_52_code 5 = .ok (.ifCond .ne 7, 3) := by decide +kernel
theorem d_M_take_Z_8 : decode prog_10_method_52_code 8 = .ok (.iload_n 1, 1) := by decide +kernel
theorem d_M_take_Z_9 : decode prog_10_method_52_code 9 = .ok (.ifCond .ne 7, 3) := by decide +kernel
theorem d_M_take_Z_12 : decode prog_10_method_52_code 12 = .ok (.iconst 1, 1) := by decide +kernel
theorem d_M_take_Z_13 : decode prog_10_method_52_code 13 = .ok (.goto 4, 3) := by decide +kernel
theorem d_M_take_Z_16 : decode prog_10_method_52_code 16 = .ok (.iconst 0, 1) := by decide +kernel
theorem d_M_take_Z_17 : decode prog_10_method_52_code 17 = .ok (.putfield 165, 3) := by decide +kernel
theorem d_M_take_Z_20 : decode prog_10_method_52_code 20 = .ok (.aload_n 0, 1) := by decide +kernel
theorem d_M_take_Z_21 : decode prog_10_method_52_code 21 = .ok (.getfield 165, 3) := by decide +kernel
theorem d_M_take_Z_24 : decode prog_10_method_52_code 24 = .ok (.ifCond .ne 7, 3) := by decide +kernel
theorem d_M_take_Z_27 : decode prog_10_method_52_code 27 = .ok (.aload_n 0, 1) := by decide +kernel
theorem d_M_take_Z_28 : decode prog_10_method_52_code 28 = .ok (.invokevirtual 169, 3) := by decide +kernel
theorem d_M_take_Z_31 : decode prog_10_method_52_code 31 = .ok (.return_, 1) := by decide +kernel
def f_M_take_Z (q : Nat) (p1 : Int32) (σ : Mem) : Option (Unit × Mem) :=
  if (σ q 15) = 0 then
    if p1 = 0 then
      lt (wr σ q 15 (1 : Int32)) fun σ1 =>
      if (σ1 q 15) = 0 then
        bd (f_M_read q σ1) fun _ σ3 =>
        some ((), σ3)
      else
        some ((), σ1)
    else
      lt (wr σ q 15 (0 : Int32)) fun σ4 =>
      if (σ4 q 15) = 0 then
        bd (f_M_read q σ4) fun _ σ6 =>
        some ((), σ6)
      else
        some ((), σ4)
  else
    lt (wr σ q 15 (1 : Int32)) fun σ7 =>
    if (σ7 q 15) = 0 then
      bd (f_M_read q σ7) fun _ σ9 =>
      some ((), σ9)
    else
      some ((), σ7)
set_option maxRecDepth 100000 in
set_option maxHeartbeats 4000000 in
theorem c_M_take_Z {X : CX} (l : Launch) (q : Nat) (p1 : Int32) (hq : ModelOK X q) (σ : Mem) : CT X l y_M_take_Z prog_10_method_52_code 2 none 2 vU [.ref (xa X q), .int p1] σ (f_M_take_Z q p1 σ) := by
  refine CT_of (by decide +kernel) (Nat.le_of_ble_eq_true rfl) ?_
  intro p e s m args below meth c F hlk hr
  have F : FR p s m args c prog_10_method_52_code 2 "SensorHubModel" X := F
  show G X p l e (rmD 2) s m args below meth c 2 0 0 (QI X below args s vU) 0 [(0, .ref (xa X q)), (1, .int p1)] [] σ _
  unfold f_M_take_Z
  refine g_aload_n F d_M_take_Z_0 0 rfl ?_
  refine g_aload_n F d_M_take_Z_1 0 rfl ?_
  refine g_getI F fs_8_165 hq.1 rfl d_M_take_Z_2 ?_
  refine g_if_ne F (tgt := 12) d_M_take_Z_5 (by decide) (fun h1 => ?_) (fun h2 => ?_)
  · refine g_iload_n F d_M_take_Z_8 1 rfl ?_
    refine g_if_ne F (tgt := 16) d_M_take_Z_9 (by decide) (fun h3 => ?_) (fun h4 => ?_)
    · refine g_iconst F (v := 1) d_M_take_Z_12 (by decide) ?_
      refine g_goto F (tgt := 17) d_M_take_Z_13 (by decide) ?_
      refine g_pt (q := (1 : Int32) &&& 1 = (1 : Int32)) (by decide) (g_putZ F fw_8_165 hq.1 rfl d_M_take_Z_17 ?_)
      refine g_ltM (fun σ1 _ => ?_)
      refine g_aload_n F d_M_take_Z_20 0 rfl ?_
      refine g_getI F fs_8_165 hq.1 rfl d_M_take_Z_21 ?_
      refine g_if_ne F (tgt := 31) d_M_take_Z_24 (by decide) (fun h5 => ?_) (fun h6 => ?_)
      · refine g_aload_n F d_M_take_Z_27 0 rfl ?_
        refine g_callV F (dp := 1) (ci := 8) (As := []) (c_M_read l _ hq _) cv_8_169 hq.1 rfl rfl rfl (Nat.le_of_ble_eq_true rfl) ⟨Nat.le_of_ble_eq_true rfl, Nat.le_of_ble_eq_true rfl⟩ ⟨Nat.zero_le _, Nat.zero_le _⟩ d_M_take_Z_28 (fun _ σ3 h7 => ?_)
        exact g_vret F hlk hr d_M_take_Z_31
      exact g_vret F hlk hr d_M_take_Z_31
    refine g_iconst F (v := 0) d_M_take_Z_16 (by decide) ?_
    refine g_pt (q := (0 : Int32) &&& 1 = (0 : Int32)) (by decide) (g_putZ F fw_8_165 hq.1 rfl d_M_take_Z_17 ?_)
    refine g_ltM (fun σ4 _ => ?_)
    refine g_aload_n F d_M_take_Z_20 0 rfl ?_
    refine g_getI F fs_8_165 hq.1 rfl d_M_take_Z_21 ?_
    refine g_if_ne F (tgt := 31) d_M_take_Z_24 (by decide) (fun h8 => ?_) (fun h9 => ?_)
    · refine g_aload_n F d_M_take_Z_27 0 rfl ?_
      refine g_callV F (dp := 1) (ci := 8) (As := []) (c_M_read l _ hq _) cv_8_169 hq.1 rfl rfl rfl (Nat.le_of_ble_eq_true rfl) ⟨Nat.le_of_ble_eq_true rfl, Nat.le_of_ble_eq_true rfl⟩ ⟨Nat.zero_le _, Nat.zero_le _⟩ d_M_take_Z_28 (fun _ σ6 h10 => ?_)
      exact g_vret F hlk hr d_M_take_Z_31
    exact g_vret F hlk hr d_M_take_Z_31
  refine g_iconst F (v := 1) d_M_take_Z_12 (by decide) ?_
  refine g_goto F (tgt := 17) d_M_take_Z_13 (by decide) ?_
  refine g_pt (q := (1 : Int32) &&& 1 = (1 : Int32)) (by decide) (g_putZ F fw_8_165 hq.1 rfl d_M_take_Z_17 ?_)
  refine g_ltM (fun σ7 _ => ?_)
  refine g_aload_n F d_M_take_Z_20 0 rfl ?_
  refine g_getI F fs_8_165 hq.1 rfl d_M_take_Z_21 ?_
  refine g_if_ne F (tgt := 31) d_M_take_Z_24 (by decide) (fun h11 => ?_) (fun h12 => ?_)
  · refine g_aload_n F d_M_take_Z_27 0 rfl ?_
    refine g_callV F (dp := 1) (ci := 8) (As := []) (c_M_read l _ hq _) cv_8_169 hq.1 rfl rfl rfl (Nat.le_of_ble_eq_true rfl) ⟨Nat.le_of_ble_eq_true rfl, Nat.le_of_ble_eq_true rfl⟩ ⟨Nat.zero_le _, Nat.zero_le _⟩ d_M_take_Z_28 (fun _ σ9 h13 => ?_)
    exact g_vret F hlk hr d_M_take_Z_31
  exact g_vret F hlk hr d_M_take_Z_31
