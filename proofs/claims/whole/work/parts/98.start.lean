theorem ci_L_9 : CI "SensorHubLaw" 9 y_X_init prog_1_method_1_code 1 := ⟨Or.inl (gw_I 87 (by decide +kernel) rfl), gw_I 88 (by decide +kernel) rfl, gw_I 70 (by decide +kernel) rfl, gw_I 89 (by decide +kernel) rfl, ⟨by decide +kernel, by decide +kernel⟩, by decide +kernel, rfl⟩
theorem ci_L_12 : CI "SensorHubLaw" 12 y_M_init prog_10_method_1_code 1 := ⟨Or.inl (gw_I 884 (by decide +kernel) rfl), gw_I 885 (by decide +kernel) rfl, gw_I 78 (by decide +kernel) rfl, gw_I 886 (by decide +kernel) rfl, ⟨by decide +kernel, by decide +kernel⟩, by decide +kernel, rfl⟩
set_option maxRecDepth 100000 in
set_option maxHeartbeats 4000000 in
theorem nest_in : ∀ q ∈ nestL, Cond.methodLinkNest q.1 q.2.1 q.2.2.1 q.2.2.2 ∈ lw_tbl := by decide +kernel
def tmS (i : Nat) : Term := .string "SensorHub$Text" (ixS.getD i 0)
abbrev nrw : Cond := Jvm.Cond.and given_1 narrow_1
set_option maxRecDepth 100000 in
set_option maxHeartbeats 4000000 in
theorem str_1 : ∀ i, i < 6 → Cond.exactly (tmS i) "java/lang/String" ∈ flatC nrw := by decide +kernel
theorem str_2 : ∀ i, i < 6 → Cond.eq (.field (tmS i) "java/lang/String" "coder" "B") (.int 0) ∈ flatC nrw := by decide +kernel
theorem str_3 : ∀ i, i < 6 → Cond.arrayOf (.field (tmS i) "java/lang/String" "value" "[B") .byte ∈ flatC nrw := by decide +kernel
theorem str_4 : ∀ i, i < 6 → Cond.eq (.length (.field (tmS i) "java/lang/String" "value" "[B")) (.int (Int32.ofNat (lenS.getD i 0))) ∈ flatC nrw := by decide +kernel
theorem str_5 : ∀ i, i < 6 → ∀ j, j < lenS.getD i 0 → Cond.eq (.elem (.field (tmS i) "java/lang/String" "value" "[B") (.int (Int32.ofNat j))) (.int ((bytS.getD i []).getD j 0)) ∈ flatC nrw := by decide +kernel
theorem str_6 : ∀ i, i < 6 → ∀ j, j < 6 → i ≠ j → Cond.not (Cond.eq (tmS i) (tmS j)) ∈ flatC nrw ∨ Cond.not (Cond.eq (tmS j) (tmS i)) ∈ flatC nrw := by decide +kernel
theorem str_7 : ∀ i, i < 6 → Cond.stringRef "SensorHub$Text" (ixS.getD i 0) (txS.getD i "") ∈ lw_tbl := by decide +kernel
set_option maxRecDepth 100000 in
set_option maxHeartbeats 4000000 in
/-- the context at the law's entry -/
theorem start_cx {s : State} {b : Addr} (hts : ∀ w ∈ lw_tbl, w.before #[Value.ref b] s = true) (hgv : nrw.before #[Value.ref b] s = true) : ∃ (D : va_G) (cA : Nat → ClassId) (kA : Nat → Nat), Cx (KX D s.heap.size cA kA (fun _ => 0) 0) s := by
  have hgw : ∀ w ∈ gw, w.before #[Value.ref b] s = true := fun w hw => hts w (List.mem_filter.mp hw).1
  obtain ⟨c0, i0, k0⟩ := u_known (C := "SensorHub$Client") (T := T_0) (N := 11) (n := 11) hgw clw_0 (hts _ (List.mem_of_getElem? (i := 221) (by decide +kernel)))
  obtain ⟨c1, i1, k1⟩ := u_known (C := "SensorHub$History") (T := T_1) (N := 3) (n := 3) hgw clw_1 (hts _ (List.mem_of_getElem? (i := 331) (by decide +kernel)))
  obtain ⟨c2, i2, k2⟩ := u_known (C := "SensorHub$Hub") (T := T_2) (N := 11) (n := 11) hgw clw_2 (hts _ (List.mem_of_getElem? (i := 94) (by decide +kernel)))
  obtain ⟨c3, i3, k3⟩ := u_known (C := "SensorHub$Outages") (T := T_3) (N := 4) (n := 4) hgw clw_3 (hts _ (List.mem_of_getElem? (i := 104) (by decide +kernel)))
  obtain ⟨c4, i4, k4⟩ := u_known (C := "SensorHub$Sensor") (T := T_4) (N := 18) (n := 18) hgw clw_4 (hts _ (List.mem_of_getElem? (i := 140) (by decide +kernel)))
  obtain ⟨c5, i5, k5⟩ := u_known (C := "SensorHub$Store") (T := T_5) (N := 2) (n := 2) hgw clw_5 (hts _ (List.mem_of_getElem? (i := 126) (by decide +kernel)))
  obtain ⟨c6, i6, k6⟩ := u_known (C := "SensorHub$Text") (T := T_6) (N := 6) (n := 6) hgw clw_6 (hts _ (List.mem_of_getElem? (i := 351) (by decide +kernel)))
  obtain ⟨c7, i7, k7⟩ := u_known (C := "SensorHub") (T := T_7) (N := 4) (n := 4) hgw clw_7 (hts _ (List.mem_of_getElem? (i := 86) (by decide +kernel)))
  obtain ⟨c8, i8, k8⟩ := u_known (C := "SensorHubModel") (T := T_8) (N := 16) (n := 16) hgw clw_8 (hts _ (List.mem_of_getElem? (i := 883) (by decide +kernel)))
  obtain ⟨dC, dI, hKc⟩ : ∃ (dC : Nat → ClassId) (dI : Nat → Nat → Nat), ∀ (k : Nat) (q : vw_C), classes[k]? = some q → u_Kn s q.1 q.2.1 q.2.2 (dC k) (dI k) := by
    refine ⟨fun k => if k = 0 then c0 else if k = 1 then c1 else if k = 2 then c2 else if k = 3 then c3 else if k = 4 then c4 else if k = 5 then c5 else if k = 6 then c6 else if k = 7 then c7 else c8, fun k => if k = 0 then i0 else if k = 1 then i1 else if k = 2 then i2 else if k = 3 then i3 else if k = 4 then i4 else if k = 5 then i5 else if k = 6 then i6 else if k = 7 then i7 else i8, ?_⟩
    intro k q hq
    match k, hq with
    | 0, hq => cases hq; exact k0
    | 1, hq => cases hq; exact k1
    | 2, hq => cases hq; exact k2
    | 3, hq => cases hq; exact k3
    | 4, hq => cases hq; exact k4
    | 5, hq => cases hq; exact k5
    | 6, hq => cases hq; exact k6
    | 7, hq => cases hq; exact k7
    | 8, hq => cases hq; exact k8
    | k + 9, hq => simp [classes] at hq
  obtain ⟨a0, ka0, cm0, f0, g0, h0⟩ := Cond.arrayClass_spec (type := .int) (hts _ (List.mem_of_getElem? (i := 124) (by decide +kernel)))
  obtain ⟨a1, ka1, cm1, f1, g1, h1⟩ := Cond.arrayClass_spec (type := .boolean) (hts _ (List.mem_of_getElem? (i := 941) (by decide +kernel)))
  obtain ⟨cm2, a2, ka2, e2, -, g2, h2, f2⟩ := Cond.arrayOver_spec (n := "SensorHub$Sensor") (hts _ (List.mem_of_getElem? (i := 100) (by decide +kernel)))
  obtain ⟨cm3, a3, ka3, e3, -, g3, h3, f3⟩ := Cond.arrayOver_spec (n := "SensorHub$Client") (hts _ (List.mem_of_getElem? (i := 102) (by decide +kernel)))
  obtain ⟨cm4, a4, ka4, e4, -, g4, h4, f4⟩ := Cond.arrayOver_spec (n := "SensorHub$Hub") (hts _ (List.mem_of_getElem? (i := 337) (by decide +kernel)))
  have hA : ∀ a : Nat, a < s.heap.size → ¬ (fun q : Nat => s.heap.size ≤ q) a := fun a h => Nat.not_le.mpr h
  have hfl := flat_of_before _ hgv
  obtain ⟨adK, adV, hS, hev⟩ := vk_Sof (N := 6) (tm := tmS) (len := lenS) (byt := bytS) (A := fun q : Nat => s.heap.size ≤ q) (by decide) (fun i hi => hfl _ (str_1 i hi)) (fun i hi => hfl _ (str_2 i hi)) (fun i hi => hfl _ (str_3 i hi)) (fun i hi => hfl _ (str_4 i hi)) (fun i hi j hj => hfl _ (str_5 i hi j hj)) (fun i j hi hj hij => (str_6 i hi j hj hij).elim (fun h => Or.inl (hfl _ h)) (fun h => Or.inr (hfl _ h))) hA
  refine ⟨(dC, dI), fun k => if k = 0 then a0 else if k = 1 then a1 else if k = 2 then a2 else if k = 3 then a3 else a4, fun i => if i < 6 then adK i else adV (i - 6), ⟨hKc, ?_⟩, fun v w _ _ e => ?_, fun v _ => Nat.le_add_right _ v, fun q hq => va_Nw.of rfl (hts _ (nest_in q hq)), ⟨fun i hi => ?_, fun i j hi hj e => ?_⟩, fun i hi => ?_, ?_, ?_⟩
  · intro k q hq
    match k, hq with
    | 0, hq => cases hq; exact ⟨fun n z => ⟨fun k h => (by cases h), ka0, g0, cm0, h0⟩, f0⟩
    | 1, hq => cases hq; exact ⟨fun n z => ⟨fun k h => (by cases h), ka1, g1, cm1, h1⟩, f1⟩
    | 2, hq => cases hq; exact ⟨fun n z => ⟨fun k h => (by cases h), ka2, g2, cm2, h2⟩, ⟨ka2, cm2, g2, h2, e2, f2⟩⟩
    | 3, hq => cases hq; exact ⟨fun n z => ⟨fun k h => (by cases h), ka3, g3, cm3, h3⟩, ⟨ka3, cm3, g3, h3, e3, f3⟩⟩
    | 4, hq => cases hq; exact ⟨fun n z => ⟨fun k h => (by cases h), ka4, g4, cm4, h4⟩, ⟨ka4, cm4, g4, h4, e4, f4⟩⟩
    | k + 5, hq => simp [tys] at hq
  · have e2 : s.heap.size + v = s.heap.size + w := e
    omega
  · have h6 : ¬ i + 6 < 6 := by omega
    simp only [xk, KX, if_pos hi, if_neg h6, Nat.add_sub_cancel]
    exact hS.1 i hi
  · simp only [xk, KX, if_pos hi, if_pos hj] at e
    exact hS.2 i j hi hj e
  · simp only [xk, KX, if_pos hi]
    exact vk_R.of (hts _ (str_7 i hi)) (hev i hi)
  · exact va_Zof (hts _ (List.mem_of_getElem? (i := 646) (by decide +kernel))) (hts _ (List.mem_of_getElem? (i := 81) (by decide +kernel))) (va_eqi (hfl _ (by decide +kernel))) hA
  · exact va_Zqof (hts _ (List.mem_of_getElem? (i := 662) (by decide +kernel))) (hts _ (List.mem_of_getElem? (i := 83) (by decide +kernel))) (hfl _ (by decide +kernel)) hA
set_option maxRecDepth 100000 in
set_option maxHeartbeats 4000000 in
theorem start_walk {D : va_G} {cA : Nat → ClassId} {kA : Nat → Nat} {p : Program} {l : Launch} {e : Env} {s : State} {m : MethodId} {b : Nat} {below : List Frame} {meth : Method} {c : Code} (F : FR p s m #[Value.ref b] c code 4 "SensorHubLaw" (KX D s.heap.size cA kA (fun _ => 0) 0)) (hO : AO s) (hlk : meth.locks = false) (hr : meth.sig.returnType = ret) (L : Nat) (xs : Nat → Int32) (hX : va_X b L xs s s.heap) (hbl : b < s.heap.size) : G (KX D s.heap.size cA kA (fun _ => 0) 0) p l e room_1 s m #[Value.ref b] below meth c 4 0 0 (fun (_ : Unit) (_ : Mem) => lw_Z below #[Value.ref b] s) 0 [(0, .ref b)] [] Z0 (f_law L xs Z9) := by
  refine g_new F.chg ty_7 (rfl : classes[7]? = some ("SensorHub", T_7, 4)) tyok_7 (fun j hj => by rcases (show j = 0 ∨ j = 1 ∨ j = 2 ∨ j = 3 by omega) with rfl | rfl | rfl | rfl <;> rfl) (gw_I 85 (by decide +kernel) rfl) (gw_I 86 (by decide +kernel) rfl) (gw_I 70 (by decide +kernel) rfl) rfl ⟨Nat.le_of_ble_eq_true rfl, Nat.le_of_ble_eq_true rfl⟩ d_law_0 ?_
  refine g_dup F.chg d_law_3 rfl ?_
  refine g_callI F.chg hO (v := 0) (c_X_init l 0 rfl Z0 Z1 Z2 Z3 Z4 Z5 Z6 Z7 z0_z (fun w hw => z1_z w (by omega)) (fun w hw => z2_z w (by omega)) (fun w hw => z3_z w (by omega)) (fun w hw => z4_z w (by omega)) (fun w hw => z5_z w (by omega)) (fun w hw => z6_z w (by omega)) (fun w hw => z7_z w (by omega)) (clear_zero (q := 1) (fun w hw => z0_z w (by omega))) (clear_zero (q := 43) (fun w hw => z1_z w (by omega))) (clear_zero (q := 87) (fun w hw => z2_z w (by omega))) (clear_zero (q := 129) (fun w hw => z3_z w (by omega))) (clear_zero (q := 171) (fun w hw => z4_z w (by omega))) (clear_zero (q := 213) (fun w hw => z5_z w (by omega))) (clear_zero (q := 255) (fun w hw => z6_z w (by omega)))) ci_L_9 (Nat.le_of_ble_eq_true rfl) ⟨Nat.le_of_ble_eq_true rfl, Nat.le_of_ble_eq_true rfl⟩ ⟨Nat.le_of_ble_eq_true rfl, Nat.le_of_ble_eq_true rfl⟩ d_law_4 ?_
  refine g_astore_n F.chg (ls' := [(1, .ref (s.heap.size + 0)), (0, .ref b)]) d_law_7 (by decide) rfl ?_
  refine g_re (sh' := insL (upn (fun _ => 0) 0 170) 0 LTop) (kz' := 299) (ck' := 299) (sk' := 4231) (fun w => rfl) (by decide +kernel) rfl rfl ?_
  refine g_new F.chg ty_8 (rfl : classes[8]? = some ("SensorHubModel", T_8, 16)) tyok_8 (fun j hj => by rcases (show j = 0 ∨ j = 1 ∨ j = 2 ∨ j = 3 ∨ j = 4 ∨ j = 5 ∨ j = 6 ∨ j = 7 ∨ j = 8 ∨ j = 9 ∨ j = 10 ∨ j = 11 ∨ j = 12 ∨ j = 13 ∨ j = 14 ∨ j = 15 by omega) with rfl | rfl | rfl | rfl | rfl | rfl | rfl | rfl | rfl | rfl | rfl | rfl | rfl | rfl | rfl | rfl <;> rfl) (gw_I 882 (by decide +kernel) rfl) (gw_I 883 (by decide +kernel) rfl) (gw_I 78 (by decide +kernel) rfl) (z7_z 299 (by decide)) ⟨Nat.le_of_ble_eq_true rfl, Nat.le_of_ble_eq_true rfl⟩ d_law_8 ?_
  refine g_dup F.chg d_law_11 rfl ?_
  refine g_callI F.chg hO (v := 299) (c_M_init l 299 (by simp [upn]) Z7 Z9 (fun w hw => z7_z w (by omega)) (empty_zero (q := 299) z8_z)) ci_L_12 (Nat.le_of_ble_eq_true rfl) ⟨Nat.le_of_ble_eq_true rfl, Nat.le_of_ble_eq_true rfl⟩ ⟨Nat.le_of_ble_eq_true rfl, Nat.le_of_ble_eq_true rfl⟩ d_law_12 ?_
  refine g_astore_n F.chg (ls' := [(2, .ref (s.heap.size + 299)), (1, .ref (s.heap.size + 0)), (0, .ref b)]) d_law_15 (by decide) rfl ?_
  refine g_sub (ls' := [(0, .ref b), (1, .ref (s.heap.size + 0)), (2, .ref (s.heap.size + 299))]) [2, 1, 0] rfl ?_
  have hT1 : ∀ j, j < 299 → insL (upn (insL (upn (fun _ => 0) 0 170) 0 LTop) 299 180) 299 LMod j = LTop.getD j 0 := fun j hj => by
    have hlen : LTop.length = 299 := by decide +kernel
    have h1 : insL (upn (fun _ => 0) 0 170) 0 LTop j = LTop.getD j 0 := by
      unfold insL
      rw [if_pos ⟨Nat.zero_le _, by omega⟩, Nat.sub_zero]
    show (if 299 ≤ j ∧ j < 299 + LMod.length then LMod.getD (j - 299) 0 else upn (insL (upn (fun _ => 0) 0 170) 0 LTop) 299 180 j) = _
    rw [if_neg (by omega)]
    show (if j = 299 then 180 else insL (upn (fun _ => 0) 0 170) 0 LTop j) = _
    rw [if_neg (by omega), h1]
  exact c_law F.chg hlk hr (fun q hq => hq) L xs hX hbl (Nat.not_le.mpr hbl) (topOK_L hT1) (modelOK_L (fun j hj => insL_at hj)) Z9
set_option maxRecDepth 100000 in
set_option maxHeartbeats 4000000 in
theorem whole_start {p : Program} {e : Env} {s : State} {m : MethodId} {below : List Frame} {meth : Method} {c : Code} (l : Launch) (hflags : l.flags = flags0) {b L : Nat} {xs : Nat → Int32} (hL : L ≤ 3584) (C0 : lw_At p s m meth c b L xs) : W p l e room_1 s m #[Value.ref b] below meth c s.heap [] 0 0 (lw_Z below #[Value.ref b] s) (entryFrame m ([Value.ref b] : List Value).toArray 4) := by
  obtain ⟨hx, hb, hr, hml, hown, hts, hX, hbl, hlocks, hgv⟩ := C0
  obtain ⟨D, cA, kA, hcx⟩ := start_cx hts hgv
  have F : FR p s m #[Value.ref b] c code 4 "SensorHubLaw" (KX D s.heap.size cA kA (fun _ => 0) 0) := ⟨hx, hb, hml, hown, fun w hw => hts w (List.mem_filter.mp hw).1, hcx⟩
  have hO : AO s := ⟨va_AO.of (hts _ (List.mem_of_getElem? (i := 100) (by decide +kernel))), va_AO.of (hts _ (List.mem_of_getElem? (i := 102) (by decide +kernel))), va_AO.of (hts _ (List.mem_of_getElem? (i := 337) (by decide +kernel)))⟩
  obtain ⟨σ2, hp⟩ := pure_law L xs hL
  have hl := lv_entry ([.ref b]) (n := 4) (Nat.le_of_ble_eq_true rfl)
  rw [lg_entry_eq]
  exact start_walk (l := l) F hO hlocks hr L xs hX hbl () σ2 hp s.heap [] _ ⟨fun v h => absurd rfl h, rfl⟩ va_S.rf hl
