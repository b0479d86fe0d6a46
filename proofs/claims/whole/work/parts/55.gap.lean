/-! an outage is added -/
def gapS (S : Nat → Int32) (a b c : Int32) : Nat → Int32 := upS (upS (upS (upS S (379 + 3 * (S 2).toInt.toNat) a) (380 + 3 * (S 2).toInt.toNat) b) (381 + 3 * (S 2).toInt.toNat) c) 2 (S 2 + 1)
theorem gap_M {τ : Mem} {a b c : Int32} (h2 : 0 ≤ gI (τ 300) 2 ∧ gI (τ 300) 2 < 4) : f_M_addGap 299 a b c τ = some (τ 300 2 + 1, wrow τ 300 (gapS (τ 300) a b c)) := by
  have e2 : τ 300 2 = nI (τ 300 2).toInt.toNat := toNI h2.1
  have hn : (τ 300 2).toInt.toNat < 4 := by unfold gI at h2; omega
  unfold f_M_addGap gapS
  simp only [Nat.reduceAdd]
  generalize hN : (τ 300 2).toInt.toNat = N at *
  rw [e2]
  simp (disch := omega) only [↓lt_eq, nI_Lm, nI_La, nI_aL, ib_T, nI_clamp, ↓reduceIte, wr_row, wrow_h, wrow_2, upS_m, upS_h, e2, show 379 + 3 * N + 1 = 380 + 3 * N by omega, show 379 + 3 * N + 2 = 381 + 3 * N by omega]
theorem gap_W {S : Nat → Int32} {tS tC : Nat → Int} {b : Int} {x y z : Int32} (hW : WX S tS tC b) (h2 : gI S 2 < 4) : WX (gapS S x y z) tS tC b ∧ cfE S (gapS S x y z) ∧ (∀ p, (p < 379 ∨ 391 ≤ p) → p ≠ 2 → gapS S x y z p = S p) ∧ gI (gapS S x y z) 2 = gI S 2 + 1 := by
  have h8 := nS_le hW.1
  have h3 := hW.1.2.2.2.2.1
  have h2b := hW.1.2.2.2.1
  have hn : (S 2).toInt.toNat < 4 := by unfold gI at h2; omega
  have hm : ∀ p, (p < 379 ∨ 391 ≤ p) → p ≠ 2 → gapS S x y z p = S p := fun p hp h => by
    unfold gapS
    rw [upS_m h, upS_m (by omega), upS_m (by omega), upS_m (by omega)]
  have gm : ∀ p, (p < 379 ∨ 391 ≤ p) → p ≠ 2 → gI (gapS S x y z) p = gI S p := fun p hp h => congrArg Int32.toInt (hm p hp h)
  have g2 : gI (gapS S x y z) 2 = gI S 2 + 1 := by
    show (gapS S x y z 2).toInt = _
    unfold gapS gI at *
    rw [upS_h rfl, plus1 h2b.2 (by decide)]
  have hcf : cfE S (gapS S x y z) := fun p hp => hm p (by rcases hp with h | h | h <;> omega) (by rcases hp with h | h | h <;> omega)
  refine ⟨⟨?_, fun i hi => ?_, fun k hk => ?_, fun e he => ?_⟩, hcf, hm, g2⟩
  · have hG := hW.1
    unfold WG at hG ⊢
    rw [gm 0 (by omega) (by omega), gm 6 (by omega) (by omega), gm 1 (by omega) (by omega), g2, gm 3 (by omega) (by omega), gm 4 (by omega) (by omega), gm 7 (by omega) (by omega), gm 8 (by omega) (by omega), gm 9 (by omega) (by omega), gm 10 (by omega) (by omega)]
    omega
  · rw [cfE_n hcf] at hi
    obtain ⟨h1, h2⟩ := hW.2.1 i hi
    exact ⟨WP_cong (fun p _ _ => hm p (by omega) (by omega)) h1, WR_cong (hm 0 (by omega) (by omega)) (fun p _ _ => hm p (by omega) (by omega)) h2⟩
  · exact WC_cong hk hcf (CW_of hW) (WX_cl hW k hk) (hm 3 (by omega) (by omega)) (fun p _ _ => hm p (by omega) (by omega)) (hW.2.2.1 k hk)
  · rw [gm 3 (by omega) (by omega)] at he
    have hE := hW.2.2.2 e he
    unfold WE gI at hE ⊢
    rw [hm (391 + 3 * e) (by omega) (by omega), hm (392 + 3 * e) (by omega) (by omega), hm (163 + 27 * (S (391 + 3 * e)).toInt.toNat) (by omega) (by omega)]
    exact hE
theorem gap_X {σ : Mem} {q : Nat} {S : Nat → Int32} {tS tC : Nat → Int} {b : Int} {x y z : Int32} (hW : WX S tS tC b) (h2 : gI S 2 < 4) (hR : RH σ q S) : ∃ σ', f_Out_add (q + 4) x y z σ = some (S 2 + 1, σ') ∧ RH σ' q (gapS S x y z) ∧ ∀ w, (w < q + 4 ∨ q + 8 ≤ w) → σ' w = σ w := by
  have h8 := nS_le hW.1
  have h3b := hW.1.2.2.2.2.1
  have h2b := hW.1.2.2.2.1
  have hn : (S 2).toInt.toNat < 4 := by unfold gI at h2; omega
  have e2 : S 2 = nI (S 2).toInt.toNat := toNI h2b.1
  obtain ⟨w1, hcf, hm, g2⟩ := gap_W (x := x) (y := y) (z := z) hW h2
  have hRS := (RH_iff.mp hR).1
  obtain ⟨hRG, hRO, hRE, hRRS, hRCS⟩ := hR
  have es : σ (q + 4) 0 = nI (S 2).toInt.toNat := by rw [hRO.1]; exact e2
  have hadd : f_Out_add (q + 4) x y z σ = some (S 2 + 1, wrow (wrow (wrow (wrow σ (q + 4 + 1) (upS (σ (q + 4 + 1)) (S 2).toInt.toNat x)) (q + 4 + 2) (upS (σ (q + 4 + 2)) (S 2).toInt.toNat y)) (q + 4 + 3) (upS (σ (q + 4 + 3)) (S 2).toInt.toNat z)) (q + 4) (upS (σ (q + 4)) 0 (S 2 + 1))) := by
    unfold f_Out_add
    rw [isW, es, bd_some, if_pos (inR.mpr ⟨by rw [z0T, nI_toInt (by omega)]; omega, by rw [nI_toInt (by omega)]; show _ ≤ (3 : Int); omega⟩), if_neg i1n]
    rw [e2]
    generalize (S 2).toInt.toNat = N at *
    have hNN : (nI N).toInt.toNat = N := by
      rw [nI_toInt (by omega)]
      rfl
    simp (disch := omega) only [↓lt_eq, hNN, nI_aL, ib_T, nI_clamp, ↓reduceIte, wr_row, wrow_h, wrow_2, wrow_m, upS_h, es]
  refine ⟨_, hadd, ?_, fun w hw => by rw [wrow_m (by omega), wrow_m (by omega), wrow_m (by omega), wrow_m (by omega)]⟩
  have ho : ∀ w, (w < q + 4 ∨ q + 8 ≤ w) → wrow (wrow (wrow (wrow σ (q + 4 + 1) (upS (σ (q + 4 + 1)) (S 2).toInt.toNat x)) (q + 4 + 2) (upS (σ (q + 4 + 2)) (S 2).toInt.toNat y)) (q + 4 + 3) (upS (σ (q + 4 + 3)) (S 2).toInt.toNat z)) (q + 4) (upS (σ (q + 4)) 0 (S 2 + 1)) w = σ w := fun w hw => by rw [wrow_m (by omega), wrow_m (by omega), wrow_m (by omega), wrow_m (by omega)]
  refine RH_iff.mpr ⟨RS_keep hcf (CW_of hW) ⟨fun i k hi hk => by rw [ho _ (by omega)], fun i k hi hk => by rw [ho _ (by omega)]⟩ (WX_cl hW) hRS, ?_, ?_, ?_, ?_, ?_⟩
  · unfold RG at hRG ⊢
    rw [ho q (by omega), ho (q + 1) (by omega), hm 0 (by omega) (by omega), hm 6 (by omega) (by omega), hm 5 (by omega) (by omega), hm 4 (by omega) (by omega), hm 1 (by omega) (by omega)]
    refine ⟨hRG.1, hRG.2.1, hRG.2.2.1, hRG.2.2.2.1, hRG.2.2.2.2.1, fun c hc => ?_⟩
    rw [hm (7 + c) (by omega) (by omega)]
    exact hRG.2.2.2.2.2 c hc
  · refine ⟨?_, fun o ho2 => ?_⟩
    · rw [wrow_h, upS_h rfl]
      exact (upS_h rfl).symm
    · rw [g2] at ho2
      rw [wrow_m (b := q + 4 + 1) (by omega), wrow_m (b := q + 4 + 1) (by omega), wrow_m (b := q + 4 + 1) (by omega), wrow_h, wrow_m (b := q + 4 + 2) (by omega), wrow_m (b := q + 4 + 2) (by omega), wrow_h, wrow_m (b := q + 4 + 3) (by omega), wrow_h]
      unfold gapS
      by_cases e : o = (S 2).toInt.toNat
      · subst e
        refine ⟨?_, ?_, ?_⟩
        · rw [upS_h rfl, upS_m (by omega), upS_m (by omega), upS_m (by omega), upS_h rfl]
        · rw [upS_h rfl, upS_m (by omega), upS_m (by omega), upS_h rfl]
        · rw [upS_h rfl, upS_m (by omega), upS_h rfl]
      · rw [upS_m e, upS_m e, upS_m e]
        have := hRO.2 o (by unfold gI at ho2 ⊢; unfold gI at h2b; omega)
        refine ⟨?_, ?_, ?_⟩
        · rw [upS_m (by omega), upS_m (by omega), upS_m (by omega), upS_m (by omega)]; exact this.1
        · rw [upS_m (by omega), upS_m (by omega), upS_m (by omega), upS_m (by omega)]; exact this.2.1
        · rw [upS_m (by omega), upS_m (by omega), upS_m (by omega), upS_m (by omega)]; exact this.2.2
  · unfold RE gI at hRE ⊢
    unfold gI at h3b
    rw [ho (q + 8) (by omega), ho (q + 8 + 1) (by omega), hm 3 (by omega) (by omega)]
    refine ⟨hRE.1, fun e p he hp => ?_⟩
    rw [hm (391 + 3 * e + p) (by omega) (by omega)]
    exact hRE.2 e p he hp
  · intro i hi
    rw [cfE_n hcf] at hi
    rw [ho _ (by omega), ho _ (by omega)]
    exact RR_cong (fun p _ _ => hm p (by omega) (by omega)) (hRRS i hi).2.1
  · intro k hk
    rw [ho _ (by omega), ho _ (by omega)]
    exact RC_cong (fun p _ _ => hm p (by omega) (by omega)) (hRCS k hk).1
theorem isPhys_X {σ : Mem} {q : Nat} {S : Nat → Int32} {b : Int} {p : Int32} (hG : WG S b) (hR : RH σ q S) : f_Hub_isPhysical q p σ = some (if 0 ≤ p.toInt ∧ p.toInt < gI S 1 ∧ S (11 + 19 * p.toInt.toNat) = 4 then 1 else 0, σ) := by
  unfold f_Hub_isPhysical
  rw [bd_eq (sensorAt_c hG hR.1)]
  by_cases hc : 0 ≤ p.toInt ∧ p.toInt < gI S 1
  · have hi : p.toInt.toNat < nS S := by unfold nS; unfold gI at hc; omega
    rw [if_pos hc, oe_some, (hR.2.2.2.1 _ hi).1.1]
    by_cases h4 : S (11 + 19 * p.toInt.toNat) = 4
    · rw [if_pos h4, if_pos ⟨hc.1, hc.2, h4⟩]
    · rw [if_neg h4, if_neg (fun z => h4 z.2.2)]
  · rw [if_neg hc, oe_none, if_neg (fun z => hc ⟨z.1, z.2.1⟩)]
theorem isPhys_M {τ : Mem} {p : Int32} (h : 0 ≤ gI (τ 300) 1 ∧ gI (τ 300) 1 ≤ 8) : f_M_isPhysical 299 p τ = some (if 0 ≤ p.toInt ∧ p.toInt < gI (τ 300) 1 ∧ τ 300 (11 + 19 * p.toInt.toNat) = 4 then 1 else 0, τ) := by
  unfold f_M_isPhysical
  rw [bd_eq (isSensor_s h)]
  by_cases hc : 0 ≤ p.toInt ∧ p.toInt < gI (τ 300) 1
  · rw [if_pos hc, if_neg i1n, bd_eq (sensor0_s p.toInt.toNat 0 (by omega) z0T (by omega) (by decide))]
    simp only [Nat.reduceAdd, Nat.add_zero]
    by_cases h4 : τ 300 (11 + 19 * p.toInt.toNat) = 4
    · rw [if_pos h4, if_pos ⟨hc.1, hc.2, h4⟩]
    · rw [if_neg h4, if_neg (fun z => h4 z.2.2)]
  · rw [if_neg hc, if_pos rfl, if_neg (fun z => hc ⟨z.1, z.2.1⟩)]
theorem s_addOutage (a1 a2 a3 : Int32) : Same (f_X_addOutage 0 a1 a2 a3) (f_M_addOutage 299 a1 a2 a3) := by
  intro σ hI
  obtain ⟨hW, hle, hR⟩ := hI.1
  have h2b := hW.1.2.2.2.1
  have hx1 := isPhys_X (p := a1) hW.1 hR
  have hm1 := fun (τ : Mem) (hτ : τ 300 = σ 300) => by
    have := isPhys_M (τ := wr τ 299 0 0) (p := a1) (by rw [wr_other (by decide), hτ]; exact hW.1.2.2.1)
    rw [wr_other (show (300 : Nat) ≠ 299 by decide), hτ] at this
    exact this
  by_cases hp : 0 ≤ a1.toInt ∧ a1.toInt < gI (σ 300) 1 ∧ σ 300 (11 + 19 * a1.toInt.toNat) = 4
  · simp only [if_pos hp] at hx1 hm1
    by_cases h2 : (0 : Int32) ≤ a2 ∧ a2 ≤ 9999
    · by_cases h3 : a2 ≤ a3 ∧ a3 ≤ 9999
      · have hfx : f_Out_isFull (0 + 1 + 4) σ = if σ 300 2 < 4 then some (0, σ) else some (1, σ) := by
          unfold f_Out_isFull
          rw [show σ (0 + 1 + 4) 0 = σ 300 2 from hR.2.1.1]
        by_cases hf : σ 300 2 < 4
        · have hf2 := hf
          rw [Int32.lt_iff_toInt_lt, d4T] at hf2
          have hne : ¬ σ 300 2 = 4 := fun e => by rw [e, d4T] at hf2; omega
          obtain ⟨g1, g2, g3, g4⟩ := gap_W (x := a1) (y := a2) (z := a3) hW hf2
          have g0 : gI (gapS (σ 300) a1 a2 a3) 0 = gI (σ 300) 0 := congrArg Int32.toInt (g3 0 (by omega) (by omega))
          refine act (fx' := fun σ10 => bd (f_Out_add 5 a1 a2 a3 σ10) fun r11 σ12 => some (r11, σ12)) (fm' := fun σ9 => bd (f_M_addGap 299 a1 a2 a3 σ9) fun r10 σ11 => some (r10, σ11)) hI (σ 300 2 + 1) (gapS (σ 300) a1 a2 a3) (by unfold WF; rw [g0]; exact g1) (by rw [g0]; exact hle) ?_ (fun σ1 hR1 hB1 => ?_) (fun τ hτ => ?_) (fun τ hτ => ?_)
          · unfold f_X_addOutage
            rw [bd_eq hx1, if_neg i1n, isW, bd_some, if_pos h2, if_neg i1n, isW, bd_some, if_pos h3, if_neg i1n, hfx, if_pos hf, bd_some, if_pos rfl]
          · obtain ⟨σ2, e2, r2, w2⟩ := gap_X (x := a1) (y := a2) (z := a3) hW hf2 hR1
            refine ⟨σ2, ?_, r2, FBq_wake (fun w hw => w2 w (by omega)) hB1, fun w hw => w2 w (by omega)⟩
            show bd (f_Out_add (1 + 4) a1 a2 a3 σ1) _ = _
            rw [bd_eq e2]
          · unfold f_M_addOutage
            simp only [Nat.reduceAdd]
            rw [lt_eq, bd_eq (hm1 τ hτ), if_neg i1n, isIn, bd_some, if_pos h2, if_neg i1n, isIn, bd_some, if_pos h3, if_neg i1n, show wr τ 299 0 0 300 = σ 300 by rw [wr_other (by decide), hτ], if_neg hne]
          · have t0 := hτ 300 (by decide) (by decide)
            have hg := gap_M (τ := τ) (a := a1) (b := a2) (c := a3) (by rw [t0]; exact ⟨h2b.1, hf2⟩)
            rw [t0] at hg
            refine ⟨wrow τ 300 (gapS (σ 300) a1 a2 a3), ?_, wrow_h, fun w h1 h2 => wrow_m h2⟩
            rw [bd_eq hg]
        · have hf4 : σ 300 2 = 4 := by
            rw [Int32.lt_iff_toInt_lt, d4T] at hf
            unfold gI at h2b
            rw [tE, d4T]; omega
          refine look hI (-3) ?_ ?_
          · unfold f_X_addOutage
            rw [bd_eq hx1, if_neg i1n, isW, bd_some, if_pos h2, if_neg i1n, isW, bd_some, if_pos h3, if_neg i1n, hfx, if_neg hf, bd_some, if_neg i1n]
          · unfold f_M_addOutage
            simp only [Nat.reduceAdd]
            rw [lt_eq, bd_eq (hm1 σ rfl), if_neg i1n, isIn, bd_some, if_pos h2, if_neg i1n, isIn, bd_some, if_pos h3, if_neg i1n, thr300, if_pos hf4]
      · refine look hI (-1) ?_ ?_
        · unfold f_X_addOutage
          rw [bd_eq hx1, if_neg i1n, isW, bd_some, if_pos h2, if_neg i1n, isW, bd_some, if_neg h3, if_pos rfl]
        · unfold f_M_addOutage
          rw [lt_eq, bd_eq (hm1 σ rfl), if_neg i1n, isIn, bd_some, if_pos h2, if_neg i1n, isIn, bd_some, if_neg h3, if_pos rfl]
    · refine look hI (-1) ?_ ?_
      · unfold f_X_addOutage
        rw [bd_eq hx1, if_neg i1n, isW, bd_some, if_neg h2, if_pos rfl]
      · unfold f_M_addOutage
        rw [lt_eq, bd_eq (hm1 σ rfl), if_neg i1n, isIn, bd_some, if_neg h2, if_pos rfl]
  · simp only [if_neg hp] at hx1 hm1
    refine look hI (-1) ?_ ?_
    · unfold f_X_addOutage
      rw [bd_eq hx1, if_pos rfl]
    · unfold f_M_addOutage
      rw [lt_eq, bd_eq (hm1 σ rfl), if_pos rfl]
