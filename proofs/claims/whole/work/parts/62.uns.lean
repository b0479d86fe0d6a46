/-! clients come and go -/
/-- an action of the common form: a record, then a change of the hub -/
theorem act2 {fx fm fx' fm' : Mem → Option (Int32 × Mem)} {σ : Mem} (hI : Inv σ) (r : Int32) (S' : Nat → Int32) (hW : WF S') (hn : gI S' 0 ≤ 9999)
    (hfx : fx σ = bd (f_His_record 85 1 σ) fun _ σ1 => fx' σ1)
    (hx : ∀ σ1, RH σ1 1 (σ 300) → FBq σ1 1 → ∃ σ2, fx' σ1 = some (r, σ2) ∧ RH σ2 1 S' ∧ FBq σ2 1 ∧ ∀ w, (w < 1 ∨ 43 ≤ w) → σ2 w = σ1 w)
    (hfm : ∀ τ : Mem, (∀ w, 300 ≤ w → τ w = σ w) → ∃ τ0 : Mem, (∀ w, w ≠ 307 → τ0 w = wr τ 299 0 0 w) ∧ fm τ = bd (f_M_keep 299 τ0) fun _ σ3 => fm' σ3)
    (hm : ∀ τ : Mem, (∀ w, 300 ≤ w → w ≠ 301 → w ≠ 307 → τ w = σ w) → ∃ σ4, fm' τ = some (r, σ4) ∧ σ4 300 = S' ∧ ∀ w, w < 303 → w ≠ 300 → σ4 w = τ w) : ∃ r σ1 σ2, fx σ = some (r, σ1) ∧ fm σ1 = some (r, σ2) ∧ Inv σ2 := by
  obtain ⟨σ1, e1, hr⟩ := rec_X hI
  have hr : RecF σ σ1 := hr
  have hrw := RecF_w hI hr
  have hH := hI.1
  have hB0 := hI.2.2.2.1
  have hT0 := hI.2.2.2.2.1
  obtain ⟨σ2, e2, r2, b2, w2⟩ := hx σ1 (RH_cong (nS_le hH.1.1) (fun w h1 h2 => hrw w (by omega)) hH.2.2) (FBq_cong (fun w h1 h2 => hrw w (by omega)) hB0)
  have hw2 : ∀ w, 297 ≤ w → σ2 w = σ w := fun w hw => by rw [w2 w (by omega), hrw w (by omega)]
  have hn5 : (σ 85 0).toInt.toNat ≤ 5 := by have := hI.2.1.1; omega
  obtain ⟨τ0, ht0, hfm0⟩ := hfm σ2 (fun w hw => hw2 w (by omega))
  have e3 : τ0 299 3 = nI (σ 85 0).toInt.toNat := by
    rw [ht0 299 (by decide), wr_m (by decide), hw2 299 (by decide), hI.2.1.2.2.1]
    exact toNI hI.2.1.1.1
  obtain ⟨σ3, f3, k1, k2, k3, k4⟩ := keep_M hn5 e3
  have t0 : ∀ w, w ≠ 299 → w ≠ 307 → τ0 w = σ2 w := fun w hw h7 => by rw [ht0 w h7, wr_other hw]
  rw [t0 301 (by decide) (by decide), t0 300 (by decide) (by decide), hw2 301 (by decide), hw2 300 (by decide)] at k4
  obtain ⟨σ4, f4, u0, u1⟩ := hm σ3 (fun w h1 h2 h7 => by rw [k1 w (by omega) h2, t0 w (by omega) h7, hw2 w (by omega)])
  have hlow : ∀ w, w < 299 → σ4 w = σ2 w := fun w hw => by rw [u1 w (by omega) (by omega), k1 w (by omega) (by omega), t0 w (by omega) (by omega)]
  refine ⟨r, σ2, σ4, by rw [hfx, bd_eq e1]; exact e2, by rw [hfm0, bd_eq f3]; exact f4, ?_⟩
  have x297 : σ4 297 = σ 297 := by rw [hlow 297 (by decide), hw2 297 (by decide)]
  have x298 : σ4 298 = σ 298 := by rw [hlow 298 (by decide), hw2 298 (by decide)]
  have x302 : σ4 302 = σ 302 := by rw [u1 302 (by decide) (by decide), k1 302 (by decide) (by decide), t0 302 (by decide) (by decide), hw2 302 (by decide)]
  have x5 : σ4 299 5 = σ 299 5 := by rw [u1 299 (by decide) (by decide), k2 5 (by decide), ht0 299 (by decide), wr_m (by decide), hw2 299 (by decide)]
  refine act_done hI hr hW hn (RH_cong (nS_le hW.1) (fun w h1 h2 => hlow w (by omega)) r2) u0 (FBq_cong (fun w h1 h2 => hlow w (by omega)) b2) (FBq_cong (fun w h1 h2 => ?_) hT0) (fun w h1 h2 => ?_) ?_ ?_ ?_
  · rw [hlow w (by omega), w2 w (by omega), hrw w (by omega)]
  · rw [hlow w (by omega), w2 w (by omega)]
  · rw [x297, x298, x302, x5]
    exact hI.2.2.1
  · rw [u1 299 (by decide) (by decide), k3]
  · rw [u1 301 (by decide) (by decide)]
    exact k4
theorem lst_cl {S S' : Nat → Int32} (hW : CW S) (hag : ∀ p, 11 ≤ p → p < 163 → S' p = S p) {i : Nat} (hi : i < nS S) : lst S' i = lst S i :=
  lstF_e (n := nS S) (fun i hi k hk => hag _ (by omega) (by have := hW.1; omega)) hW.2 8 i hi
theorem src_cl {S S' : Nat → Int32} (hW : CW S) (hag : ∀ p, 11 ≤ p → p < 163 → S' p = S p) {i : Nat} (hi : i < nS S) : src S' i = src S i :=
  srcF_e (n := nS S) (fun i hi k hk => hag _ (by omega) (by have := hW.1; omega)) hW.2 8 i hi
theorem cli_W {S S' : Nat → Int32} {tS tC : Nat → Int} {b : Int} {j : Nat} (hW : WX S tS tC b) (hj : j < 8) (h3 : gI S 3 = 0) (hag : ∀ p, (p < 163 + 27 * j ∨ 190 + 27 * j ≤ p) → S' p = S p) (hc : WC S' j (tC j) b) : WX S' tS tC b := by
  have h8 := nS_le hW.1
  have hCW := CW_of hW
  have gm : ∀ p, (p < 163 + 27 * j ∨ 190 + 27 * j ≤ p) → gI S' p = gI S p := fun p hp => congrArg Int32.toInt (hag p hp)
  have hn : nS S' = nS S := by
    unfold nS
    rw [hag 1 (by omega)]
  refine ⟨?_, fun i hi => ?_, fun k hk => ?_, fun e he => ?_⟩
  · have hG := hW.1
    unfold WG at hG ⊢
    rw [gm 0 (by omega), gm 6 (by omega), gm 1 (by omega), gm 2 (by omega), gm 3 (by omega), gm 4 (by omega), gm 7 (by omega), gm 8 (by omega), gm 9 (by omega), gm 10 (by omega)]
    exact hG
  · rw [hn] at hi
    obtain ⟨k1, k2⟩ := hW.2.1 i hi
    exact ⟨WP_cong (fun p _ _ => hag p (by omega)) k1, WR_cong (hag 0 (by omega)) (fun p _ _ => hag p (by omega)) k2⟩
  · by_cases e : k = j
    · rw [e]; exact hc
    · rcases hW.2.2.1 k hk with h | h
      · left
        rw [hag _ (by omega)]
        exact h
      · right
        have hl := WX_cl hW k hk h.1
        obtain ⟨d0, d1, d2, d3, d4, d5, d6, d7⟩ := h
        rw [gm 1 (by omega), gm 3 (by omega), gm (164 + 27 * k) (by omega), gm (165 + 27 * k) (by omega), gm (166 + 27 * k) (by omega), gm (167 + 27 * k) (by omega), gm (168 + 27 * k) (by omega), gm (170 + 27 * k) (by omega), hag (163 + 27 * k) (by omega), hag (164 + 27 * k) (by omega), hag (168 + 27 * k) (by omega), hag (170 + 27 * k) (by omega), lst_cl hCW (fun p _ _ => hag p (by omega)) hl]
        exact ⟨d0, d1, d2, d3, d4, d5, d6, d7⟩
  · rw [gm 3 (by omega), h3] at he
    omega
theorem cli_R0 {σ σ' : Mem} {q j : Nat} {S S' : Nat → Int32} {tS tC : Nat → Int} {b : Int} (hW : WX S tS tC b) (hj : j < 8) (hag : ∀ p, (p < 163 + 27 * j ∨ 190 + 27 * j ≤ p) → S' p = S p) (hR : RH σ q S) (ho : ∀ w, w ≠ q + 3 + (23 + 2 * j) → w ≠ q + 3 + (23 + 2 * j) + 1 → σ' w = σ w) (hc : RC (σ' (q + 3 + (23 + 2 * j))) (σ' (q + 3 + (23 + 2 * j) + 1)) S' j) : R0 σ' q S' := by
  have h8 := nS_le hW.1
  have h2b := hW.1.2.2.2.1
  have h3b := hW.1.2.2.2.2.1
  have hCW := CW_of hW
  have gm : ∀ p, (p < 163 + 27 * j ∨ 190 + 27 * j ≤ p) → gI S' p = gI S p := fun p hp => congrArg Int32.toInt (hag p hp)
  have hn : nS S' = nS S := by
    unfold nS
    rw [hag 1 (by omega)]
  obtain ⟨hRG, hRO, hRE, hRRS, hRCS⟩ := hR
  refine ⟨?_, ?_, ?_, fun i hi => ?_, fun k hk => ?_⟩
  · unfold RG at hRG ⊢
    rw [ho q (by omega) (by omega), ho (q + 1) (by omega) (by omega), hag 0 (by omega), hag 6 (by omega), hag 5 (by omega), hag 4 (by omega), hag 1 (by omega)]
    refine ⟨hRG.1, hRG.2.1, hRG.2.2.1, hRG.2.2.2.1, hRG.2.2.2.2.1, fun c hc => ?_⟩
    rw [hag (7 + c) (by omega)]
    exact hRG.2.2.2.2.2 c hc
  · unfold RO at hRO ⊢
    rw [ho (q + 4) (by omega) (by omega), ho (q + 4 + 1) (by omega) (by omega), ho (q + 4 + 2) (by omega) (by omega), ho (q + 4 + 3) (by omega) (by omega), gm 2 (by omega), hag 2 (by omega)]
    refine ⟨hRO.1, fun o ho2 => ?_⟩
    rw [hag (379 + 3 * o) (by omega), hag (380 + 3 * o) (by omega), hag (381 + 3 * o) (by omega)]
    exact hRO.2 o ho2
  · unfold RE at hRE ⊢
    rw [ho (q + 8) (by omega) (by omega), ho (q + 8 + 1) (by omega) (by omega), gm 3 (by omega), hag 3 (by omega)]
    refine ⟨hRE.1, fun e p he hp => ?_⟩
    rw [hag (391 + 3 * e + p) (by omega)]
    exact hRE.2 e p he hp
  · rw [hn] at hi
    obtain ⟨hP, hr, _⟩ := hRRS i hi
    rw [ho _ (by omega) (by omega), ho _ (by omega) (by omega)]
    refine ⟨?_, RR_cong (fun p _ _ => hag p (by omega)) hr⟩
    unfold RP at hP ⊢
    rw [hag (11 + 19 * i) (by omega), hag (12 + 19 * i) (by omega), hag (13 + 19 * i) (by omega), hag (14 + 19 * i) (by omega), hag (15 + 19 * i) (by omega), hag (16 + 19 * i) (by omega), hag (17 + 19 * i) (by omega), src_cl hCW (fun p _ _ => hag p (by omega)) hi, lst_cl hCW (fun p _ _ => hag p (by omega)) hi]
    exact hP
  · by_cases e : k = j
    · rw [e]; exact hc
    · rw [ho _ (by omega) (by omega), ho _ (by omega) (by omega)]
      exact RC_cong (fun p _ _ => hag p (by omega)) (hRCS k hk).1
theorem WF_stl {S O : Nat → Int32} (hW : WF S) : WF (stl S O) ∧ gI (stl S O) 0 = gI S 0 := by
  have h0 := hW.1.1
  unfold stl
  by_cases hc : chF S O (nS S) = 0
  · rw [if_pos hc]; exact ⟨hW, rfl⟩
  · rw [if_neg hc]
    have g : gI (rsS S) 0 = gI S 0 := congrArg Int32.toInt (rs_m (by omega) (by omega) (by omega))
    refine ⟨?_, g⟩
    unfold WF
    rw [g]
    exact rs_W hW (fun _ => h0.1) (fun _ => h0.1)
theorem wake_3 {S : Nat → Int32} {c : Nat} : gI (wakeS S c) 3 = 0 := by
  unfold gI wakeS
  by_cases h : S 3 = 0
  · rw [if_pos h, h, z0T]
  · rw [if_neg h, upS_m (by omega), upS_m (by omega), upS_h rfl, z0T]
theorem s_unsubscribe (a1 : Int32) : Same (f_X_unsubscribe 0 a1) (f_M_unsubscribe 299 a1) := by
  intro σ hI
  obtain ⟨hW, hle, hR⟩ := hI.1
  have h0 := hW.1.1
  have hx1 := clientAt_c (p := a1) hW hR
  have hm1 := fun (τ : Mem) (hτ : τ 300 = σ 300) => by
    have := isClient_s (τ := wr τ 299 0 0) (p := a1)
    rw [wr_other (show (300 : Nat) ≠ 299 by decide), hτ] at this
    exact this
  by_cases hp : 0 ≤ a1.toInt ∧ a1.toInt < 8 ∧ σ 300 (163 + 27 * a1.toInt.toNat) = 1
  · simp only [if_pos hp] at hx1 hm1
    have hj : a1.toInt.toNat < 8 := by omega
    have e1 : a1 = nI a1.toInt.toNat := toNI hp.1
    generalize a1.toInt.toNat = j at *
    obtain ⟨w1, w2⟩ := WF_wake (c := 2) hW hle (by decide)
    have wcf := wake_cfE hW (c := 2) (by decide)
    have hpw : wakeS (σ 300) 2 (163 + 27 * j) = 1 := by rw [cf_c wcf (j := j) (k := 0) hj (by omega) (by omega)]; exact hp.2.2
    have w3 : gI (wakeS (σ 300) 2) 3 = 0 := wake_3
    generalize hSw : wakeS (σ 300) 2 = Sw at *
    have hag : ∀ p, (p < 163 + 27 * j ∨ 190 + 27 * j ≤ p) → upS Sw (163 + 27 * j) 0 p = Sw p := fun p h => upS_m (by omega)
    have hWc : WX (upS Sw (163 + 27 * j) 0) (fun _ => gI Sw 0) (fun _ => gI Sw 0) (8 * gI Sw 0) := cli_W w1 hj w3 hag (Or.inl (upS_h rfl))
    have gc0 : gI (upS Sw (163 + 27 * j) 0) 0 = gI Sw 0 := congrArg Int32.toInt (hag 0 (by omega))
    have hWF : WF (upS Sw (163 + 27 * j) 0) := by unfold WF; rw [gc0]; exact hWc
    obtain ⟨hs1, hs2⟩ := WF_stl (O := pd Sw) hWF
    have hn : nS (upS Sw (163 + 27 * j) 0) = nS Sw := by unfold nS; rw [hag 1 (by omega)]
    refine act (fx' := fun σ5 => bd (f_Hub_wake 1 2 σ5) fun r6 σ7 => bd (f_Hub_removeClient 1 (1 + 3 + (23 + 2 * j)) σ7) fun _ σ9 => some (σ9 (1 + 3 + (23 + 2 * j)) 6, σ9)) (fm' := fun σ5 => bd (f_M_wake 299 (2 : Int32) σ5) fun r6 σ7 => bd (f_M_keepPeriods 299 σ7) fun _ σ9 => bd (f_M_client0 299 a1 (5 : Int32) σ9) fun r10 σ11 => if ib (((163 : Int32) + ((27 : Int32) * a1)) + (0 : Int32)) 481 then lt (wr σ11 300 (((163 : Int32) + ((27 : Int32) * a1)) + (0 : Int32)).toNatClampNeg (0 : Int32)) fun σ12 => bd (f_M_restartIfChanged 299 σ12) fun _ σ14 => some (r10, σ14) else none) hI (Sw (168 + 27 * j)) (stl (upS Sw (163 + 27 * j) 0) (pd Sw)) hs1 (by rw [hs2, gc0, w2]; exact hle) ?_ (fun σ1 hR1 hB1 => ?_) (fun τ hτ => ?_) (fun τ hτ => ?_)
    · unfold f_X_unsubscribe
      rw [bd_eq hx1, oe_some]
    · obtain ⟨σ2, e2, r2, k2, k3⟩ := wake_X (c := 2) (by decide) hW (by omega) hR1
      rw [hSw] at r2
      have hR0 : R0 (wr σ2 (1 + 3 + (23 + 2 * j)) 0 0) 1 (upS Sw (163 + 27 * j) 0) := cli_R0 w1 hj hag r2 (fun w h1 h2 => wr_other h1) ⟨by rw [wr_h rfl rfl, upS_h rfl], fun h => by rw [upS_h rfl] at h; exact absurd h (by decide)⟩
      obtain ⟨σ3, e3, r3, f3, b3, p3⟩ := settle_X (O := pd Sw) hWc (fun _ => by omega) (fun _ => by omega) hR0 (fun k hk => by
        rw [hn] at hk
        rw [wr_other (by have := nS_le w1.1; omega)]
        exact (r2.2.2.2.1 k hk).2.2.2)
      refine ⟨σ3, ?_, r3, b3 ?_, fun w hw => ?_⟩
      · show bd (f_Hub_wake 1 (nI 2) σ1) _ = _
        rw [bd_eq e2]
        unfold f_Hub_removeClient
        rw [lt_eq, bd_eq e3, bd_some, p3 j hj, wr_m (by omega), ((r2.2.2.2.2 j hj).1.2 hpw).1.2.2.2.2.1]
      · intro i hi
        rw [wr_other (by omega)]
        exact FBq_wake k2 hB1 i hi
      · rw [f3 w (by omega), wr_other (by omega)]
        exact k2 w (by omega)
    · unfold f_M_unsubscribe
      simp only [Nat.reduceAdd]
      rw [lt_eq, bd_eq (hm1 τ hτ), if_neg i1n]
    · have hwk := wake_Mr (τ := τ) (S := σ 300) (c := 2) (hτ 300 (by decide) (by decide)) hW (by decide)
      rw [hSw] at hwk
      obtain ⟨D, P, O, ek, hO⟩ := keepP_M (τ := wrow τ 300 Sw) (by rw [wrow_h]; exact CW_of w1) (by rw [wrow_h]; exact w1.1.2.2.1.1)
      rw [wrow_h] at hO
      generalize hτ1 : wrow (wrow (wrow (wrow τ 300 Sw) 304 D) 305 P) 306 O = τ1 at *
      have u300 : τ1 300 = Sw := by rw [← hτ1, wrow_m (by decide), wrow_m (by decide), wrow_m (by decide), wrow_h]
      have u306 : τ1 306 = O := by rw [← hτ1, wrow_h]
      have ulo : ∀ w, w < 303 → w ≠ 300 → τ1 w = τ w := fun w h1 h2 => by rw [← hτ1, wrow_m (by omega), wrow_m (by omega), wrow_m (by omega), wrow_m h2]
      have hc5 := cli_n (τ := τ1) (i := j) (kk := 5) (k := 5) (by decide) hj (by decide)
      rw [u300, ← e1] at hc5
      have e9 : (163 : Int32) + 27 * a1 + 0 = nI (163 + 27 * j) := by
        rw [e1, nI_Lm, nI_La]
        exact Int32.add_zero _
      obtain ⟨D2, P2, er⟩ := ric_M (τ := wr τ1 300 (163 + 27 * j) 0) (S := upS Sw (163 + 27 * j) 0) (O := pd Sw) (by rw [wr_row, wrow_h, u300]) hWc (fun k hk => by
        rw [hn] at hk
        rw [wr_other (by decide), u306]
        exact hO k hk)
      refine ⟨wrow (wrow (wrow (wr τ1 300 (163 + 27 * j) 0) 304 D2) 305 P2) 300 (stl (upS Sw (163 + 27 * j) 0) (pd Sw)), ?_, wrow_h, fun w h1 h2 => ?_⟩
      · show bd (f_M_wake 299 (nI 2) τ) _ = _
        rw [bd_eq hwk, bd_eq ek, bd_eq hc5, e9, if_pos (ib_nI (by omega) (by decide)), lt_eq, nI_clamp (by omega), bd_eq er, show 163 + 27 * j + 5 = 168 + 27 * j by omega]
      · rw [wrow_m h2, wrow_m (by omega), wrow_m (by omega), wr_other h2, ulo w h1 h2]
  · simp only [if_neg hp] at hx1 hm1
    refine look hI (-1) ?_ ?_
    · unfold f_X_unsubscribe
      rw [bd_eq hx1, oe_none]
    · unfold f_M_unsubscribe
      rw [lt_eq, bd_eq (hm1 σ rfl), if_pos rfl]
