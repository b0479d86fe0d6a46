/-! the calls that only look, or concern the text alone -/
theorem thr300 {σ : Mem} {x : Int32} : wr σ 299 0 x 300 = σ 300 := wr_other (by decide)
theorem look {fx fm : Mem → Option (Int32 × Mem)} {σ : Mem} (hI : Inv σ) (v : Int32) (hx : fx σ = some (v, σ)) (hm : fm σ = some (v, wr σ 299 0 0)) : ∃ r σ1 σ2, fx σ = some (r, σ1) ∧ fm σ1 = some (r, σ2) ∧ Inv σ2 := ⟨v, σ, wr σ 299 0 0, hx, hm, inv_thr hI⟩
theorem i1n : ¬ (1 : Int32) = 0 := by decide
theorem s_wakes (a1 : Int32) : Same (f_X_wakes 0 a1) (f_M_wakes 299 a1) := by
  intro σ hI
  have hRG := hI.1.2.2.1
  have i3 : (3 : Int32).toInt = 3 := by decide
  have i7 : (7 : Int32).toInt = 7 := by decide
  by_cases h : (0 : Int32) ≤ a1 ∧ a1 ≤ 3
  · have h2 := inR.mp h
    rw [z0T, i3] at h2
    have h7 : ((7 : Int32) + a1).toInt = 7 + a1.toInt := by rw [tA (by rw [i7]; omega) (by rw [i7]; omega), i7]
    have hn : ((7 : Int32) + a1).toNatClampNeg = 7 + a1.toInt.toNat := by show ((7 : Int32) + a1).toInt.toNat = _; rw [h7]; omega
    refine look hI (σ 300 (7 + a1.toInt.toNat)) ?_ ?_
    · unfold f_X_wakes f_Hub_wakesOf
      rw [isW, bd_some, if_pos h, if_neg i1n, isW, bd_some, if_pos h, if_neg i1n, if_pos (show ib a1 4 from ⟨h2.1, by omega⟩), bd_some]
      rw [← hRG.2.2.2.2.2 a1.toInt.toNat (by omega)]
      rfl
    · unfold f_M_wakes
      rw [lt_eq, isIn, bd_some, if_pos h, if_neg i1n, if_pos (show ib (7 + a1) 481 from ⟨by omega, by omega⟩), hn]
      simp only [Nat.reduceAdd]
      rw [thr300]
  · refine look hI (-1) ?_ ?_
    · unfold f_X_wakes
      rw [isW, bd_some, if_neg h, if_pos rfl]
    · unfold f_M_wakes
      rw [lt_eq, isIn, bd_some, if_neg h, if_pos rfl]
theorem s_entry (a1 a2 : Int32) : Same (f_X_entry 0 a1 a2) (f_M_entry 299 a1 a2) := by
  intro σ hI
  have hRE := hI.1.2.2.2.2.1
  have i2 : (2 : Int32).toInt = 2 := by decide
  have hn3 : 0 ≤ (σ 300 3).toInt ∧ (σ 300 3).toInt ≤ 30 := hI.1.1.1.2.2.2.2.1
  by_cases h1 : a1 < 0
  · refine look hI (-1) ?_ ?_
    · unfold f_X_entry
      rw [if_pos h1]
    · unfold f_M_entry
      rw [lt_eq, if_pos h1]
  · have h1' := h1
    rw [Int32.lt_iff_toInt_lt, z0T] at h1'
    by_cases h : (0 : Int32) ≤ a2 ∧ a2 ≤ 2
    · have h2 := inR.mp h
      rw [z0T, i2] at h2
      by_cases h5 : σ 300 3 ≤ a1
      · refine look hI (-9) ?_ ?_
        · unfold f_X_entry f_Sto_part
          rw [if_neg h1, isW, bd_some, if_pos h, if_neg i1n]
          simp only [Nat.reduceAdd]
          rw [show σ 9 0 = σ 300 3 from hRE.1, if_pos h5, bd_some]
        · unfold f_M_entry
          rw [lt_eq, if_neg h1, isIn, bd_some, if_pos h, if_neg i1n]
          simp only [Nat.reduceAdd]
          rw [thr300, if_pos h5]
      · have h7 := h5
        rw [Int32.le_iff_toInt_le] at h7
        have ha : a1.toInt = (a1.toInt.toNat : Int) := by omega
        have hb : a2.toInt = (a2.toInt.toNat : Int) := by omega
        refine look hI (σ 300 (391 + 3 * a1.toInt.toNat + a2.toInt.toNat)) ?_ ?_
        · unfold f_X_entry
          rw [if_neg h1, isW, bd_some, if_pos h, if_neg i1n, bd_eq (part_s a1.toInt.toNat a2.toInt.toNat ha hb (by omega) (by omega))]
          simp only [Nat.reduceAdd]
          rw [show σ 9 0 = σ 300 3 from hRE.1, if_neg (by omega), show σ 10 (3 * a1.toInt.toNat + a2.toInt.toNat) = σ 300 (391 + 3 * a1.toInt.toNat + a2.toInt.toNat) from hRE.2 _ _ (by show _ < (σ 300 3).toInt; omega) (by omega)]
        · unfold f_M_entry
          rw [lt_eq, if_neg h1, isIn, bd_some, if_pos h, if_neg i1n]
          simp only [Nat.reduceAdd]
          rw [thr300, if_neg h5, bd_eq (entryPart_s a1.toInt.toNat a2.toInt.toNat ha hb (by omega) (by omega))]
          simp only [Nat.reduceAdd]
          rw [thr300]
    · refine look hI (-1) ?_ ?_
      · unfold f_X_entry
        rw [if_neg h1, isW, bd_some, if_neg h, if_pos rfl]
      · unfold f_M_entry
        rw [lt_eq, if_neg h1, isIn, bd_some, if_neg h, if_pos rfl]
theorem inv_txt {σ σ' : Mem} (hI : Inv σ) (h : ∀ w, w ≠ 297 → w ≠ 298 → w ≠ 299 → w ≠ 302 → σ' w = σ w) (h3 : σ' 299 3 = σ 299 3) (hT : (0 ≤ (σ' 297 0).toInt ∧ (σ' 297 0).toInt ≤ 160) ∧ σ' 299 5 = σ' 297 0 ∧ ∀ k : Nat, (k : Int) < (σ' 297 0).toInt → σ' 298 k = σ' 302 k ∧ 1 ≤ (σ' 298 k).toInt ∧ (σ' 298 k).toInt ≤ 255) : Inv σ' := by
  obtain ⟨⟨a1, a2, a3⟩, ⟨b1, b2, b3, b4⟩, ⟨c1, c2, c3⟩, f1, f2, f3⟩ := hI
  have e300 := h 300 (by decide) (by decide) (by decide) (by decide)
  have e301 := h 301 (by decide) (by decide) (by decide) (by decide)
  have e85 := h 85 (by decide) (by decide) (by decide) (by decide)
  refine ⟨?_, ?_, hT, ?_⟩
  · rw [e300]
    exact ⟨a1, a2, RH_cong (nS_le a1.1) (fun w h1 h2 => h w (by omega) (by omega) (by omega) (by omega)) a3⟩
  · rw [e301, e85, h3]
    refine ⟨b1, b2, b3, fun j hj => ?_⟩
    obtain ⟨d1, d2, d3⟩ := b4 j hj
    have hm : ((σ 85 1).toInt.toNat + 4 - j) % 5 < 5 := Nat.mod_lt _ (by decide)
    exact ⟨d1, d2, RH_cong (nS_le d1.1) (fun w h1 h2 => h w (by omega) (by omega) (by omega) (by omega)) d3⟩
  · have g : ∀ q, q + 42 ≤ 297 → FBq σ q → FBq σ' q := fun q hq hB => FBq_cong (fun w h1 h2 => h w (by omega) (by omega) (by omega) (by omega)) hB
    exact ⟨g 1 (by omega) f1, g 43 (by omega) f2, fun r hr => g _ (by omega) (f3 r hr)⟩
theorem s_clearText : Same (f_X_clearText 0) (f_M_clearText 299) := by
  intro σ hI
  have h5 : σ 299 5 = σ 297 0 := hI.2.2.1.2.1
  unfold f_X_clearText f_M_clearText f_Txt_clear
  simp only [lt_eq, bd_some]
  refine ⟨σ 297 0, wr σ 297 0 0, wr (wr (wr σ 297 0 0) 299 0 0) 299 5 0, rfl, ?_, ?_⟩
  · rw [wr_m (by decide), wr_m (by decide), h5]
  · refine inv_txt hI (fun w h1 h2 h3 h4 => ?_) ?_ ⟨?_, ?_, fun k hk => ?_⟩
    · rw [wr_other h3, wr_other h3, wr_other h1]
    · rw [wr_m (by decide), wr_m (by decide), wr_m (by decide)]
    · rw [wr_m (by decide), wr_m (by decide), wr_h rfl rfl]; decide
    · rw [wr_h rfl rfl, wr_m (by decide), wr_m (by decide), wr_h rfl rfl]
    · rw [wr_m (by decide), wr_m (by decide), wr_h rfl rfl, z0T] at hk
      omega
theorem s_append (a1 : Int32) : Same (f_X_append 0 a1) (f_M_append 299 a1) := by
  intro σ hI
  obtain ⟨hl, h5, ht⟩ := hI.2.2.1
  have z1 : (1 : Int32).toInt = 1 := by decide
  have z9 : (159 : Int32).toInt = 159 := by decide
  have z160 : (160 : Int32).toInt = 160 := by decide
  have z255 : (255 : Int32).toInt = 255 := by decide
  have en : σ 297 0 = nI (σ 297 0).toInt.toNat := toNI hl.1
  have t5 : wr σ 299 0 0 299 5 = σ 297 0 := by rw [wr_m (by omega), h5]
  unfold f_X_append f_M_append f_Txt_isFull f_Txt_add
  simp only [Nat.reduceAdd]
  rw [isW, bd_some]
  by_cases h : (1 : Int32) ≤ a1 ∧ a1 ≤ 255
  · have h2 := inR.mp h
    rw [if_pos h, if_neg i1n]
    by_cases h6 : σ 297 0 < 160
    · have h7 := h6
      rw [Int32.lt_iff_toInt_lt] at h7
      have hin : (0 : Int32) ≤ σ 297 0 ∧ σ 297 0 ≤ 159 := inR.mpr ⟨by rw [z0T]; omega, by omega⟩
      have hne : ¬ σ 297 0 = 160 := fun e => by rw [e] at h7; omega
      have hcl : (σ 297 0).toNatClampNeg = (σ 297 0).toInt.toNat := rfl
      have hib : ib (σ 297 0) 160 := ⟨hl.1, by omega⟩
      rw [if_pos h6, bd_some, if_pos rfl, isW, bd_some, if_pos hin, if_neg i1n, if_pos hib, lt_eq, lt_eq, bd_some, hcl]
      have q0 : ∀ τ : Mem, τ = wr σ 298 (σ 297 0).toInt.toNat a1 → τ 297 0 = σ 297 0 := fun τ e => by rw [e, wr_m (by omega)]
      rw [q0 _ rfl]
      refine ⟨_, _, wr (wr (wr (wr (wr σ 298 (σ 297 0).toInt.toNat a1) 297 0 (σ 297 0 + 1)) 299 0 0) 302 (σ 297 0).toInt.toNat a1) 299 5 (σ 297 0 + 1), rfl, ?_, ?_⟩
      · have u5 : wr (wr (wr σ 298 (σ 297 0).toInt.toNat a1) 297 0 (σ 297 0 + 1)) 299 0 0 299 5 = σ 297 0 := by
          rw [wr_m (by omega), wr_m (by omega), wr_m (by omega), h5]
        rw [lt_eq, isIn, bd_some, if_pos h, if_neg i1n, u5, if_neg hne, if_pos hib, lt_eq, lt_eq, hcl, wr_m (v := 302) (by omega), u5, wr_h rfl rfl, wr_h rfl rfl]
      · have p1 : (σ 297 0 + 1).toInt = (σ 297 0).toInt + 1 := plus1 (B := 160) (by omega) (by decide)
        have r0 : wr (wr (wr (wr (wr σ 298 (σ 297 0).toInt.toNat a1) 297 0 (σ 297 0 + 1)) 299 0 0) 302 (σ 297 0).toInt.toNat a1) 299 5 (σ 297 0 + 1) 297 0 = σ 297 0 + 1 := by
          rw [wr_m (by omega), wr_m (by omega), wr_m (by omega), wr_h rfl rfl]
        refine inv_txt hI (fun w g1 g2 g3 g4 => ?_) ?_ ⟨?_, ?_, fun k hk => ?_⟩
        · rw [wr_other g3, wr_other g4, wr_other g3, wr_other g1, wr_other g2]
        · rw [wr_m (by omega), wr_m (by omega), wr_m (by omega), wr_m (by omega), wr_m (by omega)]
        · rw [r0, p1]; omega
        · rw [r0, wr_h rfl rfl]
        · rw [r0, p1] at hk
          have e1 : wr (wr (wr (wr (wr σ 298 (σ 297 0).toInt.toNat a1) 297 0 (σ 297 0 + 1)) 299 0 0) 302 (σ 297 0).toInt.toNat a1) 299 5 (σ 297 0 + 1) 298 k = wr σ 298 (σ 297 0).toInt.toNat a1 298 k := by
            rw [wr_m (by omega), wr_m (by omega), wr_m (by omega), wr_m (by omega)]
          have e2 : wr (wr (wr (wr (wr σ 298 (σ 297 0).toInt.toNat a1) 297 0 (σ 297 0 + 1)) 299 0 0) 302 (σ 297 0).toInt.toNat a1) 299 5 (σ 297 0 + 1) 302 k = if k = (σ 297 0).toInt.toNat then a1 else σ 302 k := by
            rw [wr_m (by omega)]
            by_cases e : k = (σ 297 0).toInt.toNat
            · rw [if_pos e, wr_h rfl e]
            · rw [if_neg e, wr_m (Or.inr e), wr_m (by omega), wr_m (by omega), wr_m (by omega)]
          rw [e1, e2]
          by_cases e : k = (σ 297 0).toInt.toNat
          · rw [if_pos e, wr_h rfl e]
            exact ⟨rfl, by omega⟩
          · rw [if_neg e, wr_m (Or.inr e)]
            exact ht k (by omega)
    · have h8 : σ 297 0 = 160 := by
        rw [Int32.lt_iff_toInt_lt] at h6
        rw [tE]; omega
      rw [if_neg h6, bd_some, if_neg i1n]
      refine ⟨_, _, _, rfl, ?_, inv_thr (x := 0) hI⟩
      rw [lt_eq, isIn, bd_some, if_pos h, if_neg i1n, t5, if_pos h8]
  · rw [if_neg h, if_pos rfl]
    refine ⟨_, _, _, rfl, ?_, inv_thr (x := 0) hI⟩
    rw [lt_eq, isIn, bd_some, if_neg h, if_pos rfl]
theorem and1 (c : Prop) [Decidable c] : (if c then (1 : Int32) else 0) &&& 1 = if c then (1 : Int32) else 0 := by
  by_cases h : c
  · rw [if_pos h]; decide
  · rw [if_neg h]; decide
theorem isSensor_s {τ : Mem} {p : Int32} (h : 0 ≤ gI (τ 300) 1 ∧ gI (τ 300) 1 ≤ 8) : f_M_isSensor 299 p τ = some (if 0 ≤ p.toInt ∧ p.toInt < gI (τ 300) 1 then 1 else 0, τ) := by
  have i1 : (1 : Int32).toInt = 1 := by decide
  unfold f_M_isSensor
  simp only [Nat.reduceAdd]
  rw [isIn, bd_some]
  unfold gI at h ⊢
  have e1 : (τ 300 1 - 1).toInt = (τ 300 1).toInt - 1 := by rw [tS (by rw [i1]; omega) (by rw [i1]; omega), i1]
  have ec : (0 ≤ p ∧ p ≤ τ 300 1 - 1) ↔ (0 ≤ p.toInt ∧ p.toInt < (τ 300 1).toInt) := by
    rw [inR, e1, z0T]
    omega
  rw [if_pos (and1 _)]
  by_cases hc : 0 ≤ p ∧ p ≤ τ 300 1 - 1
  · rw [if_pos hc, if_pos (ec.mp hc)]
  · rw [if_neg hc, if_neg (fun z => hc (ec.mpr z))]
theorem isClient_s {τ : Mem} {p : Int32} : f_M_isClient 299 p τ = some (if 0 ≤ p.toInt ∧ p.toInt < 8 ∧ τ 300 (163 + 27 * p.toInt.toNat) = 1 then 1 else 0, τ) := by
  have i7 : (7 : Int32).toInt = 7 := by decide
  unfold f_M_isClient
  rw [isIn, bd_some]
  by_cases hc : (0 : Int32) ≤ p ∧ p ≤ 7
  · have h2 := inR.mp hc
    rw [z0T, i7] at h2
    have hp : p.toInt = (p.toInt.toNat : Int) := by omega
    rw [if_pos hc, if_neg (show ¬ (1 : Int32) = 0 by decide), bd_eq (client0_s p.toInt.toNat 0 hp z0T (by omega) (by decide))]
    simp only [Nat.reduceAdd, Nat.add_zero]
    by_cases h1 : τ 300 (163 + 27 * p.toInt.toNat) = 1
    · rw [if_pos h1, if_pos ⟨by omega, by omega, h1⟩]
    · rw [if_neg h1, if_neg (fun z => h1 z.2.2)]
  · rw [if_neg hc, if_pos rfl, if_neg (fun z => hc (inR.mpr (by rw [z0T, i7]; omega)))]
/-- the class's client of a number -/
theorem clientAt_c {σ : Mem} {q : Nat} {S : Nat → Int32} {tS tC : Nat → Int} {b : Int} {p : Int32} (hW : WX S tS tC b) (hR : RH σ q S) : f_Hub_clientAt q p σ = some (if 0 ≤ p.toInt ∧ p.toInt < 8 ∧ S (163 + 27 * p.toInt.toNat) = 1 then some (q + 3 + (23 + 2 * p.toInt.toNat)) else none, σ) := by
  by_cases hc : 0 ≤ p.toInt ∧ p.toInt < 8
  · have hp : p.toInt = (p.toInt.toNat : Int) := by omega
    have hj : p.toInt.toNat < 8 := by omega
    rw [clientAt_s p.toInt.toNat hp hj, (hR.2.2.2.2 _ hj).1.1]
    by_cases h1 : S (163 + 27 * p.toInt.toNat) = 1
    · rw [if_neg (by rw [h1]; decide), if_pos ⟨hc.1, hc.2, h1⟩]
    · have h0 : S (163 + 27 * p.toInt.toNat) = 0 := by
        rcases hW.2.2.1 _ hj with h | h
        · exact h
        · exact absurd h.1 h1
      rw [if_pos h0, if_neg (fun z => h1 z.2.2)]
  · rw [clientAt_n hc, if_neg (fun z => hc ⟨z.1, z.2.1⟩)]
theorem sensorAt_c {σ : Mem} {q : Nat} {S : Nat → Int32} {b : Int} {p : Int32} (hG : WG S b) (hR : RG σ q S) : f_Hub_sensorAt q p σ = some (if 0 ≤ p.toInt ∧ p.toInt < gI S 1 then some (q + 2 + (8 + 2 * p.toInt.toNat)) else none, σ) := by
  have h4 : σ q 4 = S 1 := hR.2.2.2.2.1
  have h1 := hG.2.2.1
  unfold gI at h1 ⊢
  rw [sensorAt_s (by rw [h4]; exact h1.2), h4]
