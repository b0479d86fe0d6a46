/-! an item is read, class and reference -/
theorem readPhysical_e {q q1 : Nat} {σ : Mem} : f_Txt_readPhysical q q1 σ = bd (f_Hub_hasAllSensors q1 σ) fun r1 σ2 => if r1 &&& 1 = r1 then lt (wr σ2 q 2 r1) fun σ3 => phC q q1 σ3 else none := rfl
theorem readComputed_e {q q1 : Nat} {k : Int32} {σ : Mem} : f_Txt_readComputed q q1 k σ = bd (f_Hub_hasAllSensors q1 σ) fun r1 σ2 => if r1 &&& 1 = r1 then lt (wr σ2 q 2 r1) fun σ3 => drC q q1 k σ3 else none := rfl
theorem readOut_e {q q1 : Nat} {σ : Mem} : f_Txt_readOutage q q1 σ = bd (f_Out_isFull (q1 + 4) σ) fun r1 σ2 => if r1 &&& 1 = r1 then lt (wr σ2 q 2 r1) fun σ3 => ouD q q1 σ3 else none := rfl
theorem beg_c {σ : Mem} {c : Nat → Int32} {L b : Nat} {C : Prop} [Decidable C] (hL : L ≤ 160) (hH : cH σ c L (.inl b)) : X7 σ (wr σ 297 2 (if C then 0 else 1)) ∧ cS (wr σ 297 2 (if C then 0 else 1)) L (stc c L b C) := by
  refine ⟨X7_w (by decide), ?_⟩
  unfold stc
  by_cases hc : C
  · rw [if_pos hc, if_pos hc, wr_id hH.2.1]
    exact cH_S hH
  · rw [if_neg hc, if_neg hc]
    exact cB_w hH hL
theorem hasAll_c {σ : Mem} {S : Nat → Int32} {b : Int} (hG : WG S b) (hR : RH σ 43 S) : f_Hub_hasAllSensors 43 σ = some (if nS S < 8 then 0 else 1, σ) := by
  have h8 := nS_le hG
  unfold f_Hub_hasAllSensors
  rw [show σ 43 4 = S 1 from hR.1.2.2.2.2.1, nS_toI hG]
  by_cases h : nS S < 8
  · rw [if_pos h, if_pos (show nI (nS S) < (8 : Int32) from nI_lt (b := 8) h (by decide))]
  · rw [if_neg h, if_neg (show ¬ nI (nS S) < (8 : Int32) from nI_nlt (a := nS S) (b := 8) (by omega) (by omega))]
theorem isFull_c {σ : Mem} {S : Nat → Int32} (hR : RH σ 43 S) : f_Out_isFull (43 + 4) σ = some (if gI S 2 < 4 then 0 else 1, σ) := by
  unfold f_Out_isFull
  rw [show σ (43 + 4) 0 = S 2 from hR.2.1.1]
  have e : (S 2 < (4 : Int32)) ↔ gI S 2 < 4 := by
    rw [Int32.lt_iff_toInt_lt, show (4 : Int32).toInt = 4 by decide]
    exact Iff.rfl
  by_cases h : gI S 2 < 4
  · rw [if_pos h, if_pos (e.mpr h)]
  · rw [if_neg h, if_neg (fun z => h (e.mp z))]
theorem an1 (C : Prop) [Decidable C] : (if C then (0 : Int32) else 1) &&& 1 = if C then (0 : Int32) else 1 := by
  by_cases h : C
  · rw [if_pos h]; decide
  · rw [if_neg h]; decide
theorem item_c {σ : Mem} {c : Nat → Int32} {L b : Nat} {S : Nat → Int32} (h : TX σ c L) (hH : cH σ c L (.inl b)) (hW : WF S) (hR : RH σ 43 S) (hB : FBq σ 43) : ∃ σ', f_Txt_readItem 297 43 σ = some ((), σ') ∧ XC σ σ' ∧ gkC σ' L (itm c L S b).2 (itm c L S b).1 := by
  have hL := h.2.2.1
  obtain ⟨X8, s8⟩ := beg_c (C := nS S < 8) hL hH
  obtain ⟨X4, s4⟩ := beg_c (C := gI S 2 < 4) hL hH
  have dd : ∀ k : Int32, 0 ≤ k.toInt ∧ k.toInt ≤ 3 → ∃ σ', (bd (f_Txt_readComputed 297 43 k σ) fun _ σ17 => some ((), σ17)) = some ((), σ') ∧ XC σ σ' ∧ gkC σ' L (rowA S (drg c L S k (sb8 c L S b))) (rdE c L (dr2 c L S k (sb8 c L S b))) := fun k hk => by
    obtain ⟨σ', e, x, g⟩ := der_c (X7_T X8 h) hk s8 hW (fun b' hb' => (stc_y hb').1) (X7_R hW.1 X8 hR) (X7_B X8 hB)
    refine ⟨σ', ?_, XC_t (XC_7 X8) x, g⟩
    rw [readComputed_e, bd_eq (hasAll_c hW.1 hR), if_pos (an1 _), lt_eq, bd_eq e]
  have e0 : f_Txt_isWord 297 0 σ = some (if kw c L b w0 then 1 else 0, σ) := isWord_c (w := 0) (by decide) h hH
  have e1 : f_Txt_isWord 297 1 σ = some (if kw c L b w1 then 1 else 0, σ) := isWord_c (w := 1) (by decide) h hH
  have e2 : f_Txt_isWord 297 2 σ = some (if kw c L b w2 then 1 else 0, σ) := isWord_c (w := 2) (by decide) h hH
  have e3 : f_Txt_isWord 297 3 σ = some (if kw c L b w3 then 1 else 0, σ) := isWord_c (w := 3) (by decide) h hH
  have e4 : f_Txt_isWord 297 4 σ = some (if kw c L b w4 then 1 else 0, σ) := isWord_c (w := 4) (by decide) h hH
  have e5 : f_Txt_isWord 297 5 σ = some (if kw c L b w5 then 1 else 0, σ) := isWord_c (w := 5) (by decide) h hH
  unfold f_Txt_readItem itm
  rw [bd_eq e0]
  by_cases k0 : kw c L b w0
  · obtain ⟨σ', e, x, g⟩ := phy_c (X7_T X8 h) s8 hW (fun b' hb' => (stc_y hb').1) (X7_R hW.1 X8 hR) (X7_B X8 hB)
    rw [if_pos k0, if_neg i1n, if_pos k0]
    refine ⟨σ', ?_, XC_t (XC_7 X8) x, g⟩
    rw [readPhysical_e, bd_eq (hasAll_c hW.1 hR), if_pos (an1 _), lt_eq, bd_eq e]
  rw [if_neg k0, if_pos rfl, if_neg k0, bd_eq e1]
  by_cases k1 : kw c L b w1
  · rw [if_pos k1, if_neg i1n, if_pos k1]
    exact dd 0 (by decide)
  rw [if_neg k1, if_pos rfl, if_neg k1, bd_eq e2]
  by_cases k2 : kw c L b w2
  · rw [if_pos k2, if_neg i1n, if_pos k2]
    exact dd 1 (by decide)
  rw [if_neg k2, if_pos rfl, if_neg k2, bd_eq e3]
  by_cases k3 : kw c L b w3
  · rw [if_pos k3, if_neg i1n, if_pos k3]
    exact dd 2 (by decide)
  rw [if_neg k3, if_pos rfl, if_neg k3, bd_eq e4]
  by_cases k4 : kw c L b w4
  · rw [if_pos k4, if_neg i1n, if_pos k4]
    exact dd 3 (by decide)
  rw [if_neg k4, if_pos rfl, if_neg k4, bd_eq e5]
  by_cases k5 : kw c L b w5
  · obtain ⟨σ', e, x, g⟩ := out_c (X7_T X4 h) s4 hW (fun b' hb' => (stc_y hb').1) (X7_R hW.1 X4 hR) (X7_B X4 hB)
    rw [if_pos k5, if_neg i1n, if_pos k5]
    refine ⟨σ', ?_, XC_t (XC_7 X4) x, g⟩
    rw [readOut_e, bd_eq (isFull_c hR), if_pos (an1 _), lt_eq, bd_eq e]
  rw [if_neg k5, if_pos rfl, if_neg k5, lt_eq]
  have X1 : X7 σ (wr σ 297 2 1) := X7_w (by decide)
  exact ⟨_, rfl, XC_7 X1, cB_w hH hL, X7_B X1 hB, fun b' hb' => by cases hb'⟩
/-! the reference's -/
theorem readItem_e {q : Nat} {σ : Mem} : f_M_readItem q σ =
    bd (f_M_isLong q (115 : Int32) (101 : Int32) (110 : Int32) (115 : Int32) (111 : Int32) (114 : Int32) σ) fun r1 σ2 =>
    if r1 = 0 then
      bd (f_M_isWord q (115 : Int32) (117 : Int32) (109 : Int32) σ2) fun r3 σ4 =>
      if r3 = 0 then
        bd (f_M_isLong q (100 : Int32) (105 : Int32) (102 : Int32) (102 : Int32) (0 : Int32) (0 : Int32) σ4) fun r5 σ6 =>
        if r5 = 0 then
          bd (f_M_isWord q (109 : Int32) (97 : Int32) (120 : Int32) σ6) fun r7 σ8 =>
          if r7 = 0 then
            bd (f_M_isLong q (109 : Int32) (101 : Int32) (97 : Int32) (110 : Int32) (0 : Int32) (0 : Int32) σ8) fun r9 σ10 =>
            if r9 = 0 then
              bd (f_M_isLong q (111 : Int32) (117 : Int32) (116 : Int32) (97 : Int32) (103 : Int32) (101 : Int32) σ10) fun r11 σ12 =>
              if r11 = 0 then
                lt (wr σ12 q 15 (1 : Int32)) fun σ13 => mE q σ13
              else
                bd (f_M_readOutage q σ12) fun _ σ23 => mE q σ23
            else
              bd (f_M_readDerived q (3 : Int32) σ10) fun _ σ33 => mE q σ33
          else
            bd (f_M_readDerived q (2 : Int32) σ8) fun _ σ43 => mE q σ43
        else
          bd (f_M_readDerived q (1 : Int32) σ6) fun _ σ53 => mE q σ53
      else
        bd (f_M_readDerived q (0 : Int32) σ4) fun _ σ63 => mE q σ63
    else
      bd (f_M_readSensor q σ2) fun _ σ73 => mE q σ73 := rfl
theorem beg_m {τ : Mem} {c : Nat → Int32} {L b : Nat} {C D : Prop} [Decidable C] [Decidable D] {f : Mem → Option (Unit × Mem)} (h : TM τ c L) (hH : rH τ c L (.inl b)) (hCD : D ↔ ¬ C) : ∃ τ', (if D then bd (f_M_take_Z 299 (0 : Int32) τ) fun _ σ2 => f σ2 else bd (f_M_take_Z 299 (1 : Int32) τ) fun _ σ2 => f σ2) = f τ' ∧ X9 τ τ' ∧ rH τ' c L (stc c L b C) := by
  unfold stc
  by_cases hc : C
  · obtain ⟨τ', e, x, g⟩ := takeZ_m (p := 1) h hH
    rw [tkP_1] at g
    rw [if_neg (fun z => hCD.mp z hc), if_pos hc]
    exact ⟨τ', bd_eq e _, x, g⟩
  · obtain ⟨τ', e, x, g⟩ := takeZ_m (p := 0) h hH
    rw [tkP_0] at g
    rw [if_pos (hCD.mpr hc), if_neg hc]
    exact ⟨τ', bd_eq e _, x, g⟩
theorem item_m {τ : Mem} {c : Nat → Int32} {L b : Nat} {S : Nat → Int32} (h : TM τ c L) (hH : rH τ c L (.inl b)) (hW : WF S) (h300 : τ 300 = S) : ∃ τ', f_M_readItem 299 τ = some ((), τ') ∧ XM τ τ' ∧ gkM τ' c L (itm c L S b).2 (itm c L S b).1 := by
  have h8 := nS_le hW.1
  have c8 : ((8 : Int32) ≤ τ (299 + 1) 1) ↔ ¬ nS S < 8 := by
    simp only [Nat.reduceAdd]
    rw [h300, nS_toI hW.1, Int32.le_iff_toInt_le, show (8 : Int32).toInt = 8 by decide, nI_toInt (by omega)]
    omega
  have c4 : ((4 : Int32) ≤ τ (299 + 1) 2) ↔ ¬ gI S 2 < 4 := by
    simp only [Nat.reduceAdd]
    rw [h300, Int32.le_iff_toInt_le, show (4 : Int32).toInt = 4 by decide]
    unfold gI
    omega
  have en : ∀ (τ1 : Mem) (S1 : Nat → Int32) (st : Nat ⊕ Nat), TM τ1 c L → gkM τ1 c L S1 st → ∃ τ', mE 299 τ1 = some ((), τ') ∧ XM τ1 τ' ∧ gkM τ' c L S1 (rdE c L st) := fun τ1 S1 st T1 g1 => by
    obtain ⟨τ', e, x, g⟩ := end_m T1 g1.1
    refine ⟨τ', e, XM_9 x, g, fun b' hb' => ?_⟩
    obtain ⟨b0, g0⟩ := rdE_inl hb'
    rw [x.1 300 (by decide)]
    exact g1.2 b0 g0
  have dd : ∀ k : Int32, ∃ τ', (bd (f_M_readDerived 299 k τ) fun _ σ33 => mE 299 σ33) = some ((), τ') ∧ XM τ τ' ∧ gkM τ' c L (rowA S (drg c L S k (sb8 c L S b))) (rdE c L (dr2 c L S k (sb8 c L S b))) := fun k => by
    obtain ⟨τ1, e1, x1, g1⟩ := beg_m (C := nS S < 8) (f := fun σ2 => drM 299 k σ2) h hH c8
    obtain ⟨τ2, e2, x2, g2⟩ := der_m (k := k) (X9_T x1 h) g1 hW (fun b' hb' => (stc_y hb').1) ((x1.1 300 (by decide)).trans h300)
    obtain ⟨τ3, e3, x3, g3⟩ := en τ2 _ _ (XM_T x2 (X9_T x1 h)) g2
    exact ⟨τ3, by rw [bd_eq (show f_M_readDerived 299 k τ = some ((), τ2) by rw [readDerived_e]; exact e1.trans e2)]; exact e3, XM_t (XM_9 x1) (XM_t x2 x3), g3⟩
  rw [readItem_e]
  have e0 := isLong6_m (p1 := 115) (p2 := 101) (p3 := 110) (p4 := 115) (p5 := 111) (p6 := 114) (by decide) (by decide) h hH
  have e1 := isWord_m (p1 := 115) (p2 := 117) (p3 := 109) h hH
  have e2 := isLong4_m (p1 := 100) (p2 := 105) (p3 := 102) (p4 := 102) h hH
  have e3 := isWord_m (p1 := 109) (p2 := 97) (p3 := 120) h hH
  have e4 := isLong4_m (p1 := 109) (p2 := 101) (p3 := 97) (p4 := 110) h hH
  have e5 := isLong6_m (p1 := 111) (p2 := 117) (p3 := 116) (p4 := 97) (p5 := 103) (p6 := 101) (by decide) (by decide) h hH
  unfold itm
  rw [bd_eq e0]
  by_cases k0 : kw c L b w0
  · obtain ⟨τ1, f1, x1, g1⟩ := beg_m (C := nS S < 8) (f := fun σ2 => phM 299 σ2) h hH c8
    obtain ⟨τ2, f2, x2, g2⟩ := phy_m (X9_T x1 h) g1 hW (fun b' hb' => (stc_y hb').1) ((x1.1 300 (by decide)).trans h300)
    obtain ⟨τ3, f3, x3, g3⟩ := en τ2 _ _ (XM_T x2 (X9_T x1 h)) g2
    rw [if_pos k0, if_neg i1n, if_pos k0]
    exact ⟨τ3, by rw [bd_eq (show f_M_readSensor 299 τ = some ((), τ2) by rw [readSensor_e]; exact f1.trans f2)]; exact f3, XM_t (XM_9 x1) (XM_t x2 x3), g3⟩
  rw [if_neg k0, if_pos rfl, if_neg k0, bd_eq e1]
  by_cases k1 : kw c L b w1
  · rw [if_pos k1, if_neg i1n, if_pos k1]
    exact dd 0
  rw [if_neg k1, if_pos rfl, if_neg k1, bd_eq e2]
  by_cases k2 : kw c L b w2
  · rw [if_pos k2, if_neg i1n, if_pos k2]
    exact dd 1
  rw [if_neg k2, if_pos rfl, if_neg k2, bd_eq e3]
  by_cases k3 : kw c L b w3
  · rw [if_pos k3, if_neg i1n, if_pos k3]
    exact dd 2
  rw [if_neg k3, if_pos rfl, if_neg k3, bd_eq e4]
  by_cases k4 : kw c L b w4
  · rw [if_pos k4, if_neg i1n, if_pos k4]
    exact dd 3
  rw [if_neg k4, if_pos rfl, if_neg k4, bd_eq e5]
  by_cases k5 : kw c L b w5
  · obtain ⟨τ1, f1, x1, g1⟩ := beg_m (C := gI S 2 < 4) (f := fun σ2 => ouM 299 σ2) h hH c4
    obtain ⟨τ2, f2, x2, g2⟩ := out_m (X9_T x1 h) g1 hW (fun b' hb' => (stc_y hb').1) ((x1.1 300 (by decide)).trans h300)
    obtain ⟨τ3, f3, x3, g3⟩ := en τ2 _ _ (XM_T x2 (X9_T x1 h)) g2
    rw [if_pos k5, if_neg i1n, if_pos k5]
    exact ⟨τ3, by rw [bd_eq (show f_M_readOutage 299 τ = some ((), τ2) by rw [readOutage_e]; exact f1.trans f2)]; exact f3, XM_t (XM_9 x1) (XM_t x2 x3), g3⟩
  rw [if_neg k5, if_pos rfl, if_neg k5, lt_eq]
  have x1 : X9 τ (wr τ 299 15 1) := X9_w (by omega)
  obtain ⟨τ3, f3, x3, g3⟩ := en (wr τ 299 15 1) S (.inr (tks c L b)) (X9_T x1 h) ⟨fail_m hH, fun b' hb' => by cases hb'⟩
  exact ⟨τ3, f3, XM_t (XM_9 x1) x3, g3⟩
