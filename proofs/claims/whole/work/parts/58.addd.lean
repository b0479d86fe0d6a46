/-! addSensor, addDerived -/
theorem gj_s {q : Int32} {σ : Mem} (hq : 1 ≤ q.toInt ∧ q.toInt ≤ 20) : ∃ j, f_X_greatestJitter q σ = some (j, σ) ∧ j.toInt = min 9 (q.toInt - 1) := by
  have i9 : (9 : Int32).toInt = 9 := by decide
  have e1 : (q - 1).toInt = q.toInt - 1 := by rw [tS (by rw [i1T]; omega) (by rw [i1T]; omega), i1T]
  refine ⟨if q - 1 < 9 then q - 1 else 9, ?_, ?_⟩
  · unfold f_X_greatestJitter
    rw [bd_eq min_s]
  · by_cases h : q - 1 < 9
    · have h2 := h
      rw [Int32.lt_iff_toInt_lt, e1, i9] at h2
      rw [if_pos h, e1]
      omega
    · have h2 := h
      rw [Int32.lt_iff_toInt_lt, e1, i9] at h2
      rw [if_neg h, i9]
      omega
theorem s_addSensor (a1 a2 a3 a4 a5 a6 : Int32) : Same (f_X_addSensor 0 a1 a2 a3 a4 a5 a6) (f_M_addSensor 299 a1 a2 a3 a4 a5 a6) := by
  intro σ hI
  obtain ⟨hW, hle, hR⟩ := hI.1
  have i20 : (20 : Int32).toInt = 20 := by decide
  have i5 : (5 : Int32).toInt = 5 := by decide
  have i99 : (99 : Int32).toInt = 99 := by decide
  have i999 : (999 : Int32).toInt = 999 := by decide
  have i9 : (9 : Int32).toInt = 9 := by decide
  have i50 : (50 : Int32).toInt = 50 := by decide
  have i8 : (8 : Int32).toInt = 8 := by decide
  by_cases h1 : (1 : Int32) ≤ a1 ∧ a1 ≤ 20
  rotate_left
  · exact look hI (-1) (by unfold f_X_addSensor; rw [isW, bd_some, if_neg h1, if_pos rfl]) (by unfold f_M_addSensor; rw [lt_eq, isIn, bd_some, if_neg h1, if_pos rfl])
  by_cases h2 : (1 : Int32) ≤ a2 ∧ a2 ≤ 5
  rotate_left
  · exact look hI (-1) (by unfold f_X_addSensor; rw [isW, bd_some, if_pos h1, if_neg i1n, isW, bd_some, if_neg h2, if_pos rfl]) (by unfold f_M_addSensor; rw [lt_eq, isIn, bd_some, if_pos h1, if_neg i1n, isIn, bd_some, if_neg h2, if_pos rfl])
  by_cases h3 : (0 : Int32) ≤ a3 ∧ a3 ≤ 99
  rotate_left
  · exact look hI (-1) (by unfold f_X_addSensor; rw [isW, bd_some, if_pos h1, if_neg i1n, isW, bd_some, if_pos h2, if_neg i1n, isW, bd_some, if_neg h3, if_pos rfl]) (by unfold f_M_addSensor; rw [lt_eq, isIn, bd_some, if_pos h1, if_neg i1n, isIn, bd_some, if_pos h2, if_neg i1n, isIn, bd_some, if_neg h3, if_pos rfl])
  by_cases h4 : (0 : Int32) ≤ a4 ∧ a4 ≤ 999
  rotate_left
  · exact look hI (-1) (by unfold f_X_addSensor; rw [isW, bd_some, if_pos h1, if_neg i1n, isW, bd_some, if_pos h2, if_neg i1n, isW, bd_some, if_pos h3, if_neg i1n, isW, bd_some, if_neg h4, if_pos rfl]) (by unfold f_M_addSensor; rw [lt_eq, isIn, bd_some, if_pos h1, if_neg i1n, isIn, bd_some, if_pos h2, if_neg i1n, isIn, bd_some, if_pos h3, if_neg i1n, isIn, bd_some, if_neg h4, if_pos rfl])
  have k1 := inR.mp h1
  have k2 := inR.mp h2
  have k3 := inR.mp h3
  have k4 := inR.mp h4
  rw [i1T, i20] at k1
  rw [i1T, i5] at k2
  rw [z0T, i99] at k3
  rw [z0T, i999] at k4
  obtain ⟨j, ej, hj⟩ := gj_s (q := a1) (σ := σ) k1
  have h5 : ((0 : Int32) ≤ a5 ∧ a5 ≤ j) ↔ ((0 : Int32) ≤ a5 ∧ a5 ≤ 9) ∧ ¬ a1 ≤ a5 := by
    rw [inR, inR, Int32.le_iff_toInt_le, z0T, i9, hj]
    omega
  by_cases h5a : (0 : Int32) ≤ a5 ∧ a5 ≤ j
  rotate_left
  · refine look hI (-1) (by unfold f_X_addSensor; rw [isW, bd_some, if_pos h1, if_neg i1n, isW, bd_some, if_pos h2, if_neg i1n, isW, bd_some, if_pos h3, if_neg i1n, isW, bd_some, if_pos h4, if_neg i1n, bd_eq ej, isW, bd_some, if_neg h5a, if_pos rfl]) ?_
    unfold f_M_addSensor
    rw [lt_eq, isIn, bd_some, if_pos h1, if_neg i1n, isIn, bd_some, if_pos h2, if_neg i1n, isIn, bd_some, if_pos h3, if_neg i1n, isIn, bd_some, if_pos h4, if_neg i1n, isIn, bd_some]
    by_cases h5b : (0 : Int32) ≤ a5 ∧ a5 ≤ 9
    · have h5c : a1 ≤ a5 := Classical.byContradiction fun z => h5a (h5.mpr ⟨h5b, z⟩)
      rw [if_pos h5b, if_neg i1n, if_pos h5c]
    · rw [if_neg h5b, if_pos rfl]
  obtain ⟨h5b, h5c⟩ := h5.mp h5a
  have k5 := inR.mp h5b
  rw [z0T, i9] at k5
  by_cases h6 : (1 : Int32) ≤ a6 ∧ a6 ≤ 50
  rotate_left
  · exact look hI (-1) (by unfold f_X_addSensor; rw [isW, bd_some, if_pos h1, if_neg i1n, isW, bd_some, if_pos h2, if_neg i1n, isW, bd_some, if_pos h3, if_neg i1n, isW, bd_some, if_pos h4, if_neg i1n, bd_eq ej, isW, bd_some, if_pos h5a, if_neg i1n, isW, bd_some, if_neg h6, if_pos rfl]) (by unfold f_M_addSensor; rw [lt_eq, isIn, bd_some, if_pos h1, if_neg i1n, isIn, bd_some, if_pos h2, if_neg i1n, isIn, bd_some, if_pos h3, if_neg i1n, isIn, bd_some, if_pos h4, if_neg i1n, isIn, bd_some, if_pos h5b, if_neg i1n, if_neg h5c, isIn, bd_some, if_neg h6, if_pos rfl])
  have k6 := inR.mp h6
  rw [i1T, i50] at k6
  have hall : f_Hub_hasAllSensors (0 + 1) σ = if σ 300 1 < 8 then some (0, σ) else some (1, σ) := by
    unfold f_Hub_hasAllSensors
    rw [show σ (0 + 1) 4 = σ 300 1 from hR.1.2.2.2.2.1]
  have h1b := hW.1.2.2.1
  by_cases hf : σ 300 1 < 8
  · have hf2 := hf
    rw [Int32.lt_iff_toInt_lt, i8] at hf2
    have hn : nS (σ 300) < 8 := by unfold nS; omega
    have hne : ¬ σ 300 1 = 8 := fun e => by rw [e, i8] at hf2; omega
    have hP : WP (rowA (σ 300) (gP a1 a2 a3 a4 a5 a6)) (nS (σ 300)) := phy_WP k1 k2 k3 k4 k5 k6
    have g0 : gI (rowA (σ 300) (gP a1 a2 a3 a4 a5 a6)) 0 = gI (σ 300) 0 := congrArg Int32.toInt (rowA_m (by omega) (by omega))
    have hW' : WF (rowA (σ 300) (gP a1 a2 a3 a4 a5 a6)) := by
      unfold WF
      rw [g0]
      exact add_W hW hn (fun k h7 _ => gP_0 h7) hP hW.1.1.1
    refine act (fx' := fun σ1 => bd (f_Hub_addPhysical 1 a1 a2 a3 a4 a5 a6 σ1) fun r19 σ20 => some (r19, σ20)) (fm' := fun σ3 => bd (f_M_addPhysical 299 a1 a2 a3 a4 a5 a6 σ3) fun r16 σ17 => some (r16, σ17)) hI (nI (nS (σ 300))) _ hW' (by rw [g0]; exact hle) ?_ (fun σ1 hR1 hB1 => ?_) (fun τ hτ => ?_) (fun τ hτ => ?_)
    · unfold f_X_addSensor
      rw [isW, bd_some, if_pos h1, if_neg i1n, isW, bd_some, if_pos h2, if_neg i1n, isW, bd_some, if_pos h3, if_neg i1n, isW, bd_some, if_pos h4, if_neg i1n, bd_eq ej, isW, bd_some, if_pos h5a, if_neg i1n, isW, bd_some, if_pos h6, if_neg i1n, hall, if_pos hf, bd_some, if_pos rfl]
    · obtain ⟨σ2, e2, r2, w2, b2⟩ := phy_X hW hn hP hW.1.1.1 hR1
      exact ⟨σ2, bd_eq e2 _, r2, b2 hB1, fun w hw => w2 w (by omega)⟩
    · unfold f_M_addSensor
      simp only [Nat.reduceAdd]
      rw [lt_eq, isIn, bd_some, if_pos h1, if_neg i1n, isIn, bd_some, if_pos h2, if_neg i1n, isIn, bd_some, if_pos h3, if_neg i1n, isIn, bd_some, if_pos h4, if_neg i1n, isIn, bd_some, if_pos h5b, if_neg i1n, if_neg h5c, isIn, bd_some, if_pos h6, if_neg i1n, show wr τ 299 0 0 300 = σ 300 by rw [wr_other (by decide), hτ], if_neg hne]
    · have t0 := hτ 300 (by decide) (by decide)
      have hp := phy_M (τ := τ) (q := a1) (st := a2) (sl := a3) (of := a4) (ji := a5) (co := a6) (by rw [t0]; exact h1b.1) (by rw [t0]; exact hn)
      rw [t0] at hp
      exact ⟨_, bd_eq hp _, wrow_h, fun w g1 g2 => wrow_m g2⟩
  · have hf4 : σ 300 1 = 8 := by
      rw [Int32.lt_iff_toInt_lt, i8] at hf
      unfold gI at h1b
      rw [tE, i8]; omega
    refine look hI (-3) ?_ ?_
    · unfold f_X_addSensor
      rw [isW, bd_some, if_pos h1, if_neg i1n, isW, bd_some, if_pos h2, if_neg i1n, isW, bd_some, if_pos h3, if_neg i1n, isW, bd_some, if_pos h4, if_neg i1n, bd_eq ej, isW, bd_some, if_pos h5a, if_neg i1n, isW, bd_some, if_pos h6, if_neg i1n, hall, if_neg hf, bd_some, if_neg i1n]
    · unfold f_M_addSensor
      simp only [Nat.reduceAdd]
      rw [lt_eq, isIn, bd_some, if_pos h1, if_neg i1n, isIn, bd_some, if_pos h2, if_neg i1n, isIn, bd_some, if_pos h3, if_neg i1n, isIn, bd_some, if_pos h4, if_neg i1n, isIn, bd_some, if_pos h5b, if_neg i1n, if_neg h5c, isIn, bd_some, if_pos h6, if_neg i1n, thr300, if_pos hf4]
theorem der_WP {S : Nat → Int32} {k a c : Int32} (hk : 0 ≤ k.toInt ∧ k.toInt ≤ 3) (ha : 0 ≤ a.toInt ∧ a.toInt < nS S) (hc : (k = 3 → 1 ≤ c.toInt ∧ c.toInt ≤ 8) ∧ (k ≠ 3 → 0 ≤ c.toInt ∧ c.toInt < nS S)) : WP (rowA S (gG k a c 0 0)) (nS S) := by
  right
  unfold gI
  rw [rowA_g 0 (by decide) (by omega), rowA_g (p := 12 + 19 * nS S) 1 (by decide) (by omega), rowA_g (p := 13 + 19 * nS S) 2 (by decide) (by omega)]
  exact ⟨hk, ha, hc.1, hc.2⟩
theorem der_X {σ : Mem} {p : Nat} {S : Nat → Int32} {tS tC : Nat → Int} {b : Int} {k a c : Int32} (hW : WX S tS tC b) (hn : nS S < 8) (hk : 0 ≤ k.toInt ∧ k.toInt ≤ 3) (ha : 0 ≤ a.toInt ∧ a.toInt < nS S) (hc : (k = 3 → 1 ≤ c.toInt ∧ c.toInt ≤ 8) ∧ (k ≠ 3 → 0 ≤ c.toInt ∧ c.toInt < nS S)) (ht : 0 ≤ tS (nS S)) (hR : RH σ p S) : ∃ σ', f_Hub_addComputed p k a c σ = some (nI (nS S), σ') ∧ RH σ' p (rowA S (gG k a c 0 0)) ∧ (∀ w, (w < p ∨ p + 26 ≤ w) → σ' w = σ w) ∧ (FBq σ p → FBq σ' p) := by
  have hP := der_WP hk ha hc
  have e4 : σ p 4 = nI (nS S) := by rw [hR.1.2.2.2.2.1]; exact nS_toI hW.1
  have hWn : WX (rowA S (gG k a c 0 0)) tS tC b := add_W hW hn (fun k h7 _ => gG_0 (by omega)) hP ht
  have hCW' : CW (rowA S (gG k a c 0 0)) := CW_of hWn
  have hCW := CW_of hW
  have hnn : nS (rowA S (gG k a c 0 0)) = nS S + 1 := rowA_n hW.1 hn
  have k4 : k ≠ 4 := fun e => by rw [e, d4T] at hk; omega
  have l0 : rowA S (gG k a c 0 0) (11 + 19 * nS S) = k := rowA_g 0 (by decide) (by omega)
  have l1 : rowA S (gG k a c 0 0) (12 + 19 * nS S) = a := rowA_g 1 (by decide) (by omega)
  have l2 : rowA S (gG k a c 0 0) (13 + 19 * nS S) = c := rowA_g 2 (by decide) (by omega)
  have fa : a.toInt.toNat < nS S := by omega
  have hsrc : src (rowA S (gG k a c 0 0)) (nS S) = src S a.toInt.toNat := by
    rw [src_eq hCW' (by omega), l0, if_neg k4, l1, src_e hCW fa]
  have hlst : lst (rowA S (gG k a c 0 0)) (nS S) = if k = 3 then lst S a.toInt.toNat else max (lst S a.toInt.toNat) (lst S c.toInt.toNat) := by
    rw [lst_eq hCW' (by omega), l0, if_neg k4, l1, l2, lst_e hCW fa]
    by_cases h3 : k = 3
    · rw [if_pos h3, if_pos h3]
    · rw [if_neg h3, if_neg h3, lst_e hCW (by have := hc.2 h3; omega)]
  obtain ⟨hPa, _, _⟩ := hR.2.2.2.1 _ fa
  have hca : p + 2 + (8 + 2 * nS S) ≠ p + 2 + (8 + 2 * a.toInt.toNat) := by omega
  have hg1 : gI S 1 = nS S := by have := hW.1.2.2.1; unfold nS; unfold gI at this ⊢; omega
  have hsa : f_Hub_sensorAt p a σ = some (some (p + 2 + (8 + 2 * a.toInt.toNat)), σ) := by
    rw [sensorAt_c hW.1 hR.1, if_pos ⟨ha.1, by omega⟩]
  -- what is written, and what follows from it
  have fin : ∀ L s : Int32, L.toInt = lst (rowA S (gG k a c 0 0)) (nS S) → s = nI (src (rowA S (gG k a c 0 0)) (nS S)) → ∀ τ, τ = wr (wr (wr (wr (wr (wr (wr (wr (wr (wr σ (p + 2 + (8 + 2 * nS S)) 0 k) (p + 2 + (8 + 2 * nS S)) 7 a) (p + 2 + (8 + 2 * nS S)) 8 c) (p + 2 + (8 + 2 * nS S)) 1 L) (p + 2 + (8 + 2 * nS S)) 9 s) (p + 2 + (8 + 2 * nS S)) 10 (-9)) (p + 2 + (8 + 2 * nS S)) 11 (-9)) (p + 2 + (8 + 2 * nS S)) 12 0) (p + 2 + (8 + 2 * nS S)) 16 0) (p + 2 + (8 + 2 * nS S)) 13 0 → RH (wr τ p 4 (τ p 4 + 1)) p (rowA S (gG k a c 0 0)) ∧ (∀ w, (w < p ∨ p + 26 ≤ w) → wr τ p 4 (τ p 4 + 1) w = σ w) ∧ (FBq σ p → FBq (wr τ p 4 (τ p 4 + 1)) p) := fun L s hL hs τ hτ => by
    generalize hcc : p + 2 + (8 + 2 * nS S) = x at *
    have hcp : x ≠ p := by omega
    have hpc : p ≠ x := by omega
    have o1 : ∀ w, w ≠ x → τ w = σ w := fun w hw => by
      rw [hτ]
      simp (disch := omega) only [wr_other]
    have f0 : τ x 0 = k := by rw [hτ]; simp [wr]
    have f1 : τ x 1 = L := by rw [hτ]; simp [wr]
    have f7 : τ x 7 = a := by rw [hτ]; simp [wr]
    have f8 : τ x 8 = c := by rw [hτ]; simp [wr]
    have f9 : τ x 9 = s := by rw [hτ]; simp [wr]
    have f10 : τ x 10 = -9 := by rw [hτ]; simp [wr]
    have f11 : τ x 11 = -9 := by rw [hτ]; simp [wr]
    have f12 : τ x 12 = 0 := by rw [hτ]; simp [wr]
    have f16 : τ x 16 = 0 := by rw [hτ]; simp [wr]
    have f13 : τ x 13 = 0 := by rw [hτ]; simp [wr]
    clear hτ
    refine ⟨?_, fun w hw => ?_, fun hB i hi => ?_⟩
    · have cc : ∀ y, wr τ p 4 y x = τ x := fun y => wr_other hcp
      refine add_RH hW hn (fun k h7 _ => gG_0 (by omega)) hR (fun w h1 h2 => ?_) (fun k hk => ?_) ?_ ?_ ?_ ?_ ?_ ?_
      · rw [wr_other h1, o1 w (by omega)]
      · rw [wr_m (Or.inr hk), o1 p hpc]
      · rw [wr_h rfl rfl, o1 p hpc, hR.1.2.2.2.2.1]
      · rw [hcc, cc]
        unfold RP
        rw [f0, f1, f7, f8, f9, l0, l1, l2]
        exact ⟨rfl, fun h => absurd h k4, fun _ => ⟨rfl, rfl⟩, hs, hL⟩
      · rw [hcc, cc]; exact f10
      · rw [hcc, cc]; exact f11
      · rw [hcc, cc]; exact f12
      · rw [hcc, cc]; exact f16
    · rw [wr_other (by omega), o1 w (by omega)]
    · rw [wr_other (by omega)]
      by_cases e : p + 2 + (8 + 2 * i) = x
      · rw [e]; exact Or.inl f13
      · rw [o1 _ e]; exact hB i hi
  have ra : ∀ (y z : Int32) (k1 k2 : Nat), True := fun _ _ _ _ => trivial
  have oth : ∀ (τ : Mem) (kk : Nat) (v : Int32) (u : Nat), u ≠ p + 2 + (8 + 2 * nS S) → wr τ (p + 2 + (8 + 2 * nS S)) kk v u = τ u := fun τ kk v u hu => wr_other hu
  have hna : p + 2 + (8 + 2 * a.toInt.toNat) ≠ p + 2 + (8 + 2 * nS S) := by omega
  unfold f_Hub_addComputed
  rw [lt_eq, e4, bd_eq (sensorRoom_nI hn), oe_some, bd_eq hsa, oe_some]
  by_cases h3 : k = 3
  · rw [if_pos h3] at hlst ⊢
    unfold f_Sen_becomeComputed f_Sen_becomeIdle f_Sen_forget
    simp only [lt_eq, bd_some]
    rw [bd_eq max_s]
    simp only [oth _ _ _ _ hna]
    refine ⟨_, rfl, fin (σ (p + 2 + (8 + 2 * a.toInt.toNat)) 1) (σ (p + 2 + (8 + 2 * a.toInt.toNat)) 9) ?_ ?_ _ ?_⟩
    · rw [hlst]; exact hPa.2.2.2.2
    · rw [hsrc]; exact hPa.2.2.2.1
    · rw [if_neg (fun h => by rw [Int32.lt_iff_toInt_lt] at h; omega)]
  · have hc2 := hc.2 h3
    have fb : c.toInt.toNat < nS S := by omega
    have hnb : p + 2 + (8 + 2 * c.toInt.toNat) ≠ p + 2 + (8 + 2 * nS S) := by omega
    have hsb : f_Hub_sensorAt p c σ = some (some (p + 2 + (8 + 2 * c.toInt.toNat)), σ) := by
      rw [sensorAt_c hW.1 hR.1, if_pos ⟨hc2.1, by omega⟩]
    obtain ⟨hPb, _, _⟩ := hR.2.2.2.1 _ fb
    have l5 := hPa.2.2.2.2
    have l6 := hPb.2.2.2.2
    rw [if_neg h3] at hlst ⊢
    rw [bd_eq hsb, oe_some]
    unfold f_Sen_becomeComputed f_Sen_becomeIdle f_Sen_forget
    simp only [lt_eq, bd_some]
    rw [bd_eq max_s]
    simp only [oth _ _ _ _ hna, oth _ _ _ _ hnb]
    refine ⟨_, rfl, fin (if σ (p + 2 + (8 + 2 * a.toInt.toNat)) 1 < σ (p + 2 + (8 + 2 * c.toInt.toNat)) 1 then σ (p + 2 + (8 + 2 * c.toInt.toNat)) 1 else σ (p + 2 + (8 + 2 * a.toInt.toNat)) 1) (σ (p + 2 + (8 + 2 * a.toInt.toNat)) 9) ?_ ?_ _ rfl⟩
    · rw [hlst]
      by_cases hl : σ (p + 2 + (8 + 2 * a.toInt.toNat)) 1 < σ (p + 2 + (8 + 2 * c.toInt.toNat)) 1
      · rw [if_pos hl]
        rw [Int32.lt_iff_toInt_lt] at hl
        omega
      · rw [if_neg hl]
        rw [Int32.lt_iff_toInt_lt] at hl
        omega
    · rw [hsrc]; exact hPa.2.2.2.1
theorem s_addDerived (a1 a2 a3 : Int32) : Same (f_X_addDerived 0 a1 a2 a3) (f_M_addDerived 299 a1 a2 a3) := by
  intro σ hI
  obtain ⟨hW, hle, hR⟩ := hI.1
  have i3 : (3 : Int32).toInt = 3 := by decide
  have i8 : (8 : Int32).toInt = 8 := by decide
  have h1b := hW.1.2.2.1
  have hg1 : gI (σ 300) 1 = nS (σ 300) := by unfold nS; unfold gI at h1b ⊢; omega
  have hx2 := sensorAt_c (p := a2) hW.1 hR.1
  have hx3 := sensorAt_c (p := a3) hW.1 hR.1
  have hmS := fun (τ : Mem) (hτ : τ 300 = σ 300) (p : Int32) => by
    have := isSensor_s (τ := wr τ 299 0 0) (p := p) (by rw [wr_other (by decide), hτ]; exact h1b)
    rw [wr_other (show (300 : Nat) ≠ 299 by decide), hτ] at this
    exact this
  by_cases h1 : (0 : Int32) ≤ a1 ∧ a1 ≤ 3
  rotate_left
  · exact look hI (-1) (by unfold f_X_addDerived; rw [isW, bd_some, if_neg h1, if_pos rfl]) (by unfold f_M_addDerived; rw [lt_eq, isIn, bd_some, if_neg h1, if_pos rfl])
  have k1 := inR.mp h1
  rw [z0T, i3] at k1
  by_cases h2 : 0 ≤ a2.toInt ∧ a2.toInt < gI (σ 300) 1
  rotate_left
  · rw [if_neg h2] at hx2
    have hm2 := hmS σ rfl a2
    rw [if_neg h2] at hm2
    exact look hI (-1) (by unfold f_X_addDerived; rw [isW, bd_some, if_pos h1, if_neg i1n, bd_eq hx2, oe_none]) (by unfold f_M_addDerived; rw [lt_eq, isIn, bd_some, if_pos h1, if_neg i1n, bd_eq hm2, if_pos rfl])
  have hm2 := fun τ hτ => hmS τ hτ a2
  simp only [if_pos h2] at hx2 hm2
  -- whether the second argument is good
  have key : ∀ (good : Bool), (good = true ↔ ((a1 = 3 → 1 ≤ a3.toInt ∧ a3.toInt ≤ 8) ∧ (a1 ≠ 3 → 0 ≤ a3.toInt ∧ a3.toInt < gI (σ 300) 1))) → f_Hub_isSecond 1 a1 a3 σ = some (if good then 1 else 0, σ) ∧ ∀ (τ : Mem) (A B : Option (Int32 × Mem)), τ 300 = σ 300 → (if a1 = (3 : Int32) then bd (f_M_in a3 (1 : Int32) (8 : Int32) (wr τ 299 0 0)) fun r6 σ7 => (if r6 = 0 then A else B) else bd (f_M_isSensor 299 a3 (wr τ 299 0 0)) fun r12 σ13 => (if r12 = 0 then A else B)) = if good then B else A := fun good hgood => by
    by_cases h3 : a1 = 3
    · have hq : ((1 : Int32) ≤ a3 ∧ a3 ≤ 8) ↔ good = true := by
        rw [hgood, inR, i1T, i8]
        exact ⟨fun h => ⟨fun _ => h, fun z => absurd h3 z⟩, fun h => h.1 h3⟩
      constructor
      · unfold f_Hub_isSecond
        rw [if_pos h3, isW, bd_some, if_pos (and1 _)]
        by_cases hg : (1 : Int32) ≤ a3 ∧ a3 ≤ 8
        · rw [if_pos hg, if_pos (hq.mp hg)]
        · rw [if_neg hg, if_neg (fun z => hg (hq.mpr z))]
      · intro τ A B hτ
        rw [if_pos h3, isIn, bd_some]
        by_cases hg : (1 : Int32) ≤ a3 ∧ a3 ≤ 8
        · rw [if_pos hg, if_pos (hq.mp hg), if_neg i1n]
        · rw [if_neg hg, if_neg (fun z => hg (hq.mpr z)), if_pos rfl]
    · have hq : (0 ≤ a3.toInt ∧ a3.toInt < gI (σ 300) 1) ↔ good = true := by
        rw [hgood]
        exact ⟨fun h => ⟨fun z => absurd z h3, fun _ => h⟩, fun h => h.2 h3⟩
      constructor
      · unfold f_Hub_isSecond
        rw [if_neg h3, bd_eq hx3]
        by_cases hg : 0 ≤ a3.toInt ∧ a3.toInt < gI (σ 300) 1
        · rw [if_pos hg, oe_some, if_pos (hq.mp hg)]
        · rw [if_neg hg, oe_none, if_neg (fun z => hg (hq.mpr z))]
      · intro τ A B hτ
        rw [if_neg h3, bd_eq (hmS τ hτ a3)]
        by_cases hg : 0 ≤ a3.toInt ∧ a3.toInt < gI (σ 300) 1
        · rw [if_pos hg, if_pos (hq.mp hg), if_neg i1n]
        · rw [if_neg hg, if_neg (fun z => hg (hq.mpr z)), if_pos rfl]
  have hall : f_Hub_hasAllSensors 1 σ = if σ 300 1 < 8 then some (0, σ) else some (1, σ) := by
    unfold f_Hub_hasAllSensors
    rw [hR.1.2.2.2.2.1]
  by_cases h3 : (a1 = 3 → 1 ≤ a3.toInt ∧ a3.toInt ≤ 8) ∧ (a1 ≠ 3 → 0 ≤ a3.toInt ∧ a3.toInt < gI (σ 300) 1)
  · obtain ⟨y1, y2⟩ := key true ⟨fun _ => h3, fun _ => rfl⟩
    simp only [if_true] at y1 y2
    by_cases hf : σ 300 1 < 8
    · have hf2 := hf
      rw [Int32.lt_iff_toInt_lt, i8] at hf2
      have hn : nS (σ 300) < 8 := by unfold nS; omega
      have hne : ¬ σ 300 1 = 8 := fun e => by rw [e, i8] at hf2; omega
      have ha : 0 ≤ a2.toInt ∧ a2.toInt < nS (σ 300) := ⟨h2.1, by omega⟩
      have hcc : (a1 = 3 → 1 ≤ a3.toInt ∧ a3.toInt ≤ 8) ∧ (a1 ≠ 3 → 0 ≤ a3.toInt ∧ a3.toInt < nS (σ 300)) := ⟨h3.1, fun z => by have := h3.2 z; omega⟩
      have hP := der_WP k1 ha hcc
      have g0 : gI (rowA (σ 300) (gG a1 a2 a3 0 0)) 0 = gI (σ 300) 0 := congrArg Int32.toInt (rowA_m (by omega) (by omega))
      have hW' : WF (rowA (σ 300) (gG a1 a2 a3 0 0)) := by
        unfold WF
        rw [g0]
        exact add_W hW hn (fun k h7 _ => gG_0 (by omega)) hP hW.1.1.1
      refine act (fx' := fun σ1 => bd (f_Hub_addComputed 1 a1 a2 a3 σ1) fun r12 σ13 => some (r12, σ13)) (fm' := fun σ3 => bd (f_M_addGiven 299 a1 a2 a3 0 0 σ3) fun r16 σ17 => some (r16, σ17)) hI (nI (nS (σ 300))) _ hW' (by rw [g0]; exact hle) ?_ (fun σ1 hR1 hB1 => ?_) (fun τ hτ => ?_) (fun τ hτ => ?_)
      · unfold f_X_addDerived
        simp only [Nat.zero_add]
        rw [isW, bd_some, if_pos h1, if_neg i1n, bd_eq hx2, oe_some, bd_eq y1, if_neg i1n, hall, if_pos hf, bd_some, if_pos rfl]
      · obtain ⟨σ2, e2, r2, w2, b2⟩ := der_X hW hn k1 ha hcc hW.1.1.1 hR1
        exact ⟨σ2, bd_eq e2 _, r2, b2 hB1, fun w hw => w2 w (by omega)⟩
      · unfold f_M_addDerived
        simp only [Nat.reduceAdd]
        rw [lt_eq, isIn, bd_some, if_pos h1, if_neg i1n, bd_eq (hm2 τ hτ), if_neg i1n]
        have q300 : wr τ 299 0 0 300 = σ 300 := by rw [wr_other (by decide), hτ]
        by_cases h33 : a1 = 3
        · have hin : (1 : Int32) ≤ a3 ∧ a3 ≤ 8 := inR.mpr (by rw [i1T, i8]; exact h3.1 h33)
          rw [if_pos h33, isIn, bd_some, if_pos hin, if_neg i1n, q300, if_neg hne]
        · have hs3 := hmS τ hτ a3
          rw [if_pos (h3.2 h33)] at hs3
          rw [if_neg h33, bd_eq hs3, if_neg i1n, q300, if_neg hne]
      · have t0 := hτ 300 (by decide) (by decide)
        have hp := given_M (τ := τ) (a := a1) (b := a2) (c := a3) (d := 0) (e := 0) (by rw [t0]; exact h1b.1) (by rw [t0]; exact hn)
        rw [t0] at hp
        exact ⟨_, bd_eq hp _, wrow_h, fun w g1 g2 => wrow_m g2⟩
    · have hf4 : σ 300 1 = 8 := by
        rw [Int32.lt_iff_toInt_lt, i8] at hf
        unfold gI at h1b
        rw [tE, i8]; omega
      refine look hI (-3) ?_ ?_
      · unfold f_X_addDerived
        simp only [Nat.zero_add]
        rw [isW, bd_some, if_pos h1, if_neg i1n, bd_eq hx2, oe_some, bd_eq y1, if_neg i1n, hall, if_neg hf, bd_some, if_neg i1n]
      · unfold f_M_addDerived
        simp only [Nat.reduceAdd]
        rw [lt_eq, isIn, bd_some, if_pos h1, if_neg i1n, bd_eq (hm2 σ rfl), if_neg i1n]
        by_cases h33 : a1 = 3
        · have hin : (1 : Int32) ≤ a3 ∧ a3 ≤ 8 := inR.mpr (by rw [i1T, i8]; exact h3.1 h33)
          rw [if_pos h33, isIn, bd_some, if_pos hin, if_neg i1n, thr300, if_pos hf4]
        · have hs3 := hmS σ rfl a3
          rw [if_pos (h3.2 h33)] at hs3
          rw [if_neg h33, bd_eq hs3, if_neg i1n, thr300, if_pos hf4]
  · obtain ⟨y1, y2⟩ := key false ⟨fun z => absurd z (by decide), fun z => absurd z h3⟩
    refine look hI (-1) ?_ ?_
    · unfold f_X_addDerived
      simp only [Nat.zero_add]
      rw [isW, bd_some, if_pos h1, if_neg i1n, bd_eq hx2, oe_some, bd_eq y1, if_neg (show ¬ false = true by decide), if_pos rfl]
    · unfold f_M_addDerived
      simp only [Nat.reduceAdd]
      rw [lt_eq, isIn, bd_some, if_pos h1, if_neg i1n, bd_eq (hm2 σ rfl), if_neg i1n]
      by_cases h33 : a1 = 3
      · have hin : ¬ ((1 : Int32) ≤ a3 ∧ a3 ≤ 8) := fun z => h3 ⟨fun _ => by have := inR.mp z; rw [i1T, i8] at this; exact this, fun z => absurd h33 z⟩
        rw [if_pos h33, isIn, bd_some, if_neg hin, if_pos rfl]
      · have hs3 := hmS σ rfl a3
        rw [if_neg (fun z => h3 ⟨fun e => absurd e h33, fun _ => z⟩)] at hs3
        rw [if_neg h33, bd_eq hs3, if_pos rfl]
