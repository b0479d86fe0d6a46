/-! actions: the frame; setCapacity, flush, advance -/
def RecF (σ σ1 : Mem) : Prop := (∀ w, w ≠ 85 → (w < 87 + 42 * (σ 85 1).toInt.toNat ∨ 87 + 42 * (σ 85 1).toInt.toNat + 42 ≤ w) → σ1 w = σ w) ∧ σ1 85 0 = nI (min ((σ 85 0).toInt.toNat + 1) 5) ∧ σ1 85 1 = nI (((σ 85 1).toInt.toNat + 1) % 5) ∧ RH σ1 (87 + 42 * (σ 85 1).toInt.toNat) (σ 300) ∧ FBq σ1 (87 + 42 * (σ 85 1).toInt.toNat)
theorem RecF_w {σ σ1 : Mem} (hI : Inv σ) (h : RecF σ σ1) : ∀ w, w < 85 ∨ 297 ≤ w → σ1 w = σ w := fun w hw => by
  have := hI.2.1.2.1
  exact h.1 w (by omega) (by omega)
theorem act_done {σ σ1 σ4 : Mem} {S' : Nat → Int32} (hI : Inv σ) (hr : RecF σ σ1) (hW : WF S') (hn : gI S' 0 ≤ 9999) (hR : RH σ4 1 S') (h300 : σ4 300 = S') (hB : FBq σ4 1) (hT : FBq σ4 43) (hw : ∀ w, 85 ≤ w → w < 297 → σ4 w = σ1 w) (htx : (0 ≤ (σ4 297 0).toInt ∧ (σ4 297 0).toInt ≤ 160) ∧ σ4 299 5 = σ4 297 0 ∧ ∀ k : Nat, (k : Int) < (σ4 297 0).toInt → σ4 298 k = σ4 302 k ∧ 1 ≤ (σ4 298 k).toInt ∧ (σ4 298 k).toInt ≤ 255) (h3 : σ4 299 3 = nI (min ((σ 85 0).toInt.toNat + 1) 5)) (hK : KP (σ4 301) (σ 301) (σ 300) (σ 85 0).toInt.toNat) : Inv σ4 := by
  obtain ⟨hh, hf⟩ := his_rec hI hr.1 hr.2.1 hr.2.2.1 hr.2.2.2.1 hr.2.2.2.2 hw h3 hK
  refine ⟨?_, hh, htx, hB, hT, hf⟩
  rw [h300]
  exact ⟨hW, hn, hR⟩
/-- an action of the common form: a record, then a change of the hub -/
theorem act {fx fm fx' fm' : Mem → Option (Int32 × Mem)} {σ : Mem} (hI : Inv σ) (r : Int32) (S' : Nat → Int32) (hW : WF S') (hn : gI S' 0 ≤ 9999)
    (hfx : fx σ = bd (f_His_record 85 1 σ) fun _ σ1 => fx' σ1)
    (hx : ∀ σ1, RH σ1 1 (σ 300) → FBq σ1 1 → ∃ σ2, fx' σ1 = some (r, σ2) ∧ RH σ2 1 S' ∧ FBq σ2 1 ∧ ∀ w, (w < 1 ∨ 43 ≤ w) → σ2 w = σ1 w)
    (hfm : ∀ τ, τ 300 = σ 300 → fm τ = bd (f_M_keep 299 (wr τ 299 0 0)) fun _ σ3 => fm' σ3)
    (hm : ∀ τ : Mem, (∀ w, 300 ≤ w → w ≠ 301 → τ w = σ w) → ∃ σ4, fm' τ = some (r, σ4) ∧ σ4 300 = S' ∧ ∀ w, w < 303 → w ≠ 300 → σ4 w = τ w) : ∃ r σ1 σ2, fx σ = some (r, σ1) ∧ fm σ1 = some (r, σ2) ∧ Inv σ2 := by
  obtain ⟨σ1, e1, hr⟩ := rec_X hI
  have hr : RecF σ σ1 := hr
  have hrw := RecF_w hI hr
  have hH := hI.1
  have hB0 := hI.2.2.2.1
  have hT0 := hI.2.2.2.2.1
  obtain ⟨σ2, e2, r2, b2, w2⟩ := hx σ1 (RH_cong (nS_le hH.1.1) (fun w h1 h2 => hrw w (by omega)) hH.2.2) (FBq_cong (fun w h1 h2 => hrw w (by omega)) hB0)
  have hw2 : ∀ w, 297 ≤ w → σ2 w = σ w := fun w hw => by rw [w2 w (by omega), hrw w (by omega)]
  have hn5 : (σ 85 0).toInt.toNat ≤ 5 := by have := hI.2.1.1; omega
  have e3 : wr σ2 299 0 0 299 3 = nI (σ 85 0).toInt.toNat := by
    rw [wr_m (by decide), hw2 299 (by decide), hI.2.1.2.2.1]
    exact toNI hI.2.1.1.1
  obtain ⟨σ3, f3, k1, k2, k3, k4⟩ := keep_M hn5 e3
  have t0 : ∀ w, w ≠ 299 → wr σ2 299 0 0 w = σ2 w := fun w hw => wr_other hw
  rw [t0 301 (by decide), t0 300 (by decide), hw2 301 (by decide), hw2 300 (by decide)] at k4
  obtain ⟨σ4, f4, u0, u1⟩ := hm σ3 (fun w h1 h2 => by rw [k1 w (by omega) h2, t0 w (by omega), hw2 w (by omega)])
  have hlow : ∀ w, w < 299 → σ4 w = σ2 w := fun w hw => by rw [u1 w (by omega) (by omega), k1 w (by omega) (by omega), t0 w (by omega)]
  refine ⟨r, σ2, σ4, by rw [hfx, bd_eq e1]; exact e2, by rw [hfm σ2 (hw2 300 (by decide)), bd_eq f3]; exact f4, ?_⟩
  have x297 : σ4 297 = σ 297 := by rw [hlow 297 (by decide), hw2 297 (by decide)]
  have x298 : σ4 298 = σ 298 := by rw [hlow 298 (by decide), hw2 298 (by decide)]
  have x302 : σ4 302 = σ 302 := by rw [u1 302 (by decide) (by decide), k1 302 (by decide) (by decide), t0 302 (by decide), hw2 302 (by decide)]
  have x5 : σ4 299 5 = σ 299 5 := by rw [u1 299 (by decide) (by decide), k2 5 (by decide), wr_m (by decide), hw2 299 (by decide)]
  refine act_done hI hr hW hn (RH_cong (nS_le hW.1) (fun w h1 h2 => hlow w (by omega)) r2) u0 (FBq_cong (fun w h1 h2 => hlow w (by omega)) b2) (FBq_cong (fun w h1 h2 => ?_) hT0) (fun w h1 h2 => ?_) ?_ ?_ ?_
  · rw [hlow w (by omega), w2 w (by omega), hrw w (by omega)]
  · rw [hlow w (by omega), w2 w (by omega)]
  · rw [x297, x298, x302, x5]
    exact hI.2.2.1
  · rw [u1 299 (by decide) (by decide), k3]
  · rw [u1 301 (by decide) (by decide)]
    exact k4
theorem cap_RH {σ : Mem} {q : Nat} {S : Nat → Int32} {tS tC : Nat → Int} {b : Int} {c : Int32} (hW : WX S tS tC b) (hR : RH σ q S) : RH (wr σ q 3 c) q (upS S 4 c) := by
  have h8 := nS_le hW.1
  have hm : ∀ p, p ≠ 4 → upS S 4 c p = S p := fun p hp => upS_m hp
  have hcf : cfE S (upS S 4 c) := fun p hp => hm p (by rcases hp with h | h | h <;> omega)
  have ho : ∀ w, w ≠ q → wr σ q 3 c w = σ w := fun w hw => wr_other hw
  have hRS := (RH_iff.mp hR).1
  obtain ⟨hRG, hRO, hRE, hRRS, hRCS⟩ := hR
  refine RH_iff.mpr ⟨RS_keep hcf (CW_of hW) ⟨fun i k hi hk => by rw [ho _ (by omega)], fun i k hi hk => by rw [ho _ (by omega)]⟩ (WX_cl hW) hRS, ?_, ?_, ?_, ?_, ?_⟩
  · unfold RG at hRG ⊢
    rw [ho (q + 1) (by omega), hm 0 (by omega), hm 6 (by omega), hm 5 (by omega), hm 1 (by omega), show upS S 4 c 4 = c from upS_h rfl, wr_m (by omega), wr_m (by omega), wr_m (by omega), wr_h rfl rfl, wr_m (by omega)]
    refine ⟨hRG.1, hRG.2.1, hRG.2.2.1, rfl, hRG.2.2.2.2.1, fun c' hc => ?_⟩
    rw [hm (7 + c') (by omega)]
    exact hRG.2.2.2.2.2 c' hc
  · unfold RO gI at hRO ⊢
    rw [ho (q + 4) (by omega), ho (q + 4 + 1) (by omega), ho (q + 4 + 2) (by omega), ho (q + 4 + 3) (by omega), hm 2 (by omega)]
    refine ⟨hRO.1, fun o ho2 => ?_⟩
    rw [hm (379 + 3 * o) (by omega), hm (380 + 3 * o) (by omega), hm (381 + 3 * o) (by omega)]
    exact hRO.2 o ho2
  · unfold RE gI at hRE ⊢
    rw [ho (q + 8) (by omega), ho (q + 8 + 1) (by omega), hm 3 (by omega)]
    refine ⟨hRE.1, fun e p he hp => ?_⟩
    rw [hm (391 + 3 * e + p) (by omega)]
    exact hRE.2 e p he hp
  · intro i hi
    rw [cfE_n hcf] at hi
    rw [ho _ (by omega), ho _ (by omega)]
    exact RR_cong (fun p _ _ => hm p (by omega)) (hRRS i hi).2.1
  · intro k hk
    rw [ho _ (by omega), ho _ (by omega)]
    exact RC_cong (fun p _ _ => hm p (by omega)) (hRCS k hk).1
theorem cap_W {S : Nat → Int32} {tS tC : Nat → Int} {b : Int} {c : Int32} (hW : WX S tS tC b) (hc : 1 ≤ c.toInt ∧ c.toInt ≤ 30) : WX (upS S 4 c) tS tC b := by
  have h8 := nS_le hW.1
  have h3 := hW.1.2.2.2.2.1
  have hm : ∀ p, p ≠ 4 → upS S 4 c p = S p := fun p hp => upS_m hp
  have gm : ∀ p, p ≠ 4 → gI (upS S 4 c) p = gI S p := fun p hp => congrArg Int32.toInt (hm p hp)
  have g4 : gI (upS S 4 c) 4 = c.toInt := congrArg Int32.toInt (upS_h rfl)
  have hcf : cfE S (upS S 4 c) := fun p hp => hm p (by rcases hp with h | h | h <;> omega)
  refine ⟨?_, fun i hi => ?_, fun k hk => ?_, fun e he => ?_⟩
  · have hG := hW.1
    unfold WG at hG ⊢
    rw [gm 0 (by omega), gm 6 (by omega), gm 1 (by omega), gm 2 (by omega), gm 3 (by omega), g4, gm 7 (by omega), gm 8 (by omega), gm 9 (by omega), gm 10 (by omega)]
    omega
  · rw [cfE_n hcf] at hi
    obtain ⟨h1, h2⟩ := hW.2.1 i hi
    exact ⟨WP_cong (fun p _ _ => hm p (by omega)) h1, WR_cong (hm 0 (by omega)) (fun p _ _ => hm p (by omega)) h2⟩
  · exact WC_cong hk hcf (CW_of hW) (WX_cl hW k hk) (hm 3 (by omega)) (fun p _ _ => hm p (by omega)) (hW.2.2.1 k hk)
  · rw [gm 3 (by omega)] at he
    have hE := hW.2.2.2 e he
    unfold WE gI at hE ⊢
    rw [hm (391 + 3 * e) (by omega), hm (392 + 3 * e) (by omega), hm (163 + 27 * (S (391 + 3 * e)).toInt.toNat) (by omega)]
    exact hE
theorem FBq_wake {σ σ' : Mem} {q : Nat} (h : ∀ w, (w < q ∨ q + 42 ≤ w ∨ (q + 10 ≤ w ∧ w < q + 26)) → σ' w = σ w) (hB : FBq σ q) : FBq σ' q := fun i hi => by
  rw [h _ (by omega)]
  exact hB i hi
/-- a wake of the reference, over a row that is good -/
theorem wake_Mr {τ : Mem} {S : Nat → Int32} {tS tC : Nat → Int} {b : Int} {c : Nat} (h300 : τ 300 = S) (hW : WX S tS tC b) (hc : c < 4) : f_M_wake 299 (nI c) τ = some (S 3, wrow τ 300 (wakeS S c)) := by
  subst h300
  exact wake_M hc hW.1.2.2.2.2.1 (fun e he => (hW.2.2.2 e he).1)
theorem WF_wake {S : Nat → Int32} (hW : WF S) (hn : gI S 0 ≤ 9999) {c : Nat} (hc : c < 4) : WF (wakeS S c) ∧ gI (wakeS S c) 0 = gI S 0 := by
  have g : gI (wakeS S c) 0 = gI S 0 := congrArg Int32.toInt (wakeS_m hW hc (by omega) (by omega))
  refine ⟨?_, g⟩
  unfold WF
  rw [g]
  exact wake_WX hW (by omega) hc
theorem s_setCapacity (a1 : Int32) : Same (f_X_setCapacity 0 a1) (f_M_setCapacity 299 a1) := by
  intro σ hI
  obtain ⟨hW, hle, hR⟩ := hI.1
  have h0 := hW.1.1
  by_cases h : (1 : Int32) ≤ a1 ∧ a1 ≤ 30
  · have h2 := inR.mp h
    rw [i1T, show (30 : Int32).toInt = 30 by decide] at h2
    obtain ⟨w1, w2⟩ := WF_wake (c := 2) hW hle (by decide)
    have hW' : WF (upS (wakeS (σ 300) 2) 4 a1) := by
      unfold WF
      rw [show gI (upS (wakeS (σ 300) 2) 4 a1) 0 = gI (wakeS (σ 300) 2) 0 from congrArg Int32.toInt (upS_m (by decide))]
      exact cap_W w1 h2
    refine act (fx' := fun σ1 => bd (f_Hub_wake 1 2 σ1) fun r5 σ6 => lt (σ6 1 3) fun v7 => lt (wr σ6 1 3 a1) fun σ8 => some (v7, σ8)) (fm' := fun σ5 => bd (f_M_wake 299 (2 : Int32) σ5) fun r6 σ7 => lt (σ7 300 4) fun v8 => lt (wr σ7 300 4 a1) fun σ9 => some (v8, σ9)) hI (wakeS (σ 300) 2 4) (upS (wakeS (σ 300) 2) 4 a1) hW' ?_ ?_ (fun σ1 hR1 hB1 => ?_) (fun τ hτ => ?_) (fun τ hτ => ?_)
    · rw [show gI (upS (wakeS (σ 300) 2) 4 a1) 0 = gI (wakeS (σ 300) 2) 0 from congrArg Int32.toInt (upS_m (by decide)), w2]
      exact hle
    · unfold f_X_setCapacity
      rw [isW, bd_some, if_pos h, if_neg i1n]
    · obtain ⟨σ2, e2, r2, k2, k3⟩ := wake_X (c := 2) (by decide) hW (by omega) hR1
      refine ⟨wr σ2 1 3 a1, ?_, cap_RH w1 r2, ?_, fun w hw => ?_⟩
      · show bd (f_Hub_wake 1 (nI 2) σ1) _ = _
        rw [bd_eq e2, lt_eq, lt_eq, r2.1.2.2.2.1]
      · intro i hi
        rw [wr_other (by omega)]
        exact FBq_wake k2 hB1 i hi
      · rw [wr_other (by omega)]
        exact k2 w (by omega)
    · unfold f_M_setCapacity
      rw [lt_eq, isIn, bd_some, if_pos h, if_neg i1n]
    · have hwk := wake_Mr (τ := τ) (S := σ 300) (c := 2) (hτ 300 (by decide) (by decide)) hW (by decide)
      refine ⟨wrow τ 300 (upS (wakeS (σ 300) 2) 4 a1), ?_, wrow_h, fun w h1 h2 => wrow_m h2⟩
      show bd (f_M_wake 299 (nI 2) τ) _ = _
      rw [bd_eq hwk, lt_eq, lt_eq, wr_row, wrow_h, wrow_2]
  · refine look hI (-1) ?_ ?_
    · unfold f_X_setCapacity
      rw [isW, bd_some, if_neg h, if_pos rfl]
    · unfold f_M_setCapacity
      rw [lt_eq, isIn, bd_some, if_neg h, if_pos rfl]
theorem s_flush : Same (f_X_flush 0) (f_M_flush 299) := by
  intro σ hI
  obtain ⟨hW, hle, hR⟩ := hI.1
  have h0 := hW.1.1
  have hs : σ (0 + 1 + 8) 0 = σ 300 3 := hR.2.2.1.1
  by_cases h : σ 300 3 = 0
  · refine look hI (-2) ?_ ?_
    · unfold f_X_flush
      rw [hs, if_pos h]
    · unfold f_M_flush
      simp only [Nat.reduceAdd]
      rw [lt_eq, thr300, if_pos h]
  · obtain ⟨w1, w2⟩ := WF_wake (c := 3) hW hle (by decide)
    refine act (fx' := fun σ1 => bd (f_Hub_wake 1 3 σ1) fun r3 σ4 => some (r3, σ4)) (fm' := fun σ3 => bd (f_M_wake 299 (3 : Int32) σ3) fun r4 σ5 => some (r4, σ5)) hI (σ 300 3) (wakeS (σ 300) 3) w1 (by rw [w2]; exact hle) ?_ (fun σ1 hR1 hB1 => ?_) (fun τ hτ => ?_) (fun τ hτ => ?_)
    · unfold f_X_flush
      rw [hs, if_neg h]
    · obtain ⟨σ2, e2, r2, k2, k3⟩ := wake_X (c := 3) (by decide) hW (by omega) hR1
      refine ⟨σ2, ?_, r2, FBq_wake k2 hB1, fun w hw => k2 w (by omega)⟩
      show bd (f_Hub_wake 1 (nI 3) σ1) _ = _
      rw [bd_eq e2]
    · unfold f_M_flush
      simp only [Nat.reduceAdd]
      rw [lt_eq, show wr τ 299 0 0 300 = σ 300 by rw [wr_other (by decide), hτ], if_neg h]
    · have hwk := wake_Mr (τ := τ) (S := σ 300) (c := 3) (hτ 300 (by decide) (by decide)) hW (by decide)
      refine ⟨wrow τ 300 (wakeS (σ 300) 3), ?_, wrow_h, fun w h1 h2 => wrow_m h2⟩
      show bd (f_M_wake 299 (nI 3) τ) _ = _
      rw [bd_eq hwk]
def awS (S : Nat → Int32) : Int32 := ((S 7 + S 8) + S 9) + S 10
theorem aw_X {σ : Mem} {q : Nat} {S : Nat → Int32} (hR : RG σ q S) : f_Hub_allWakes q σ = some (awS S, σ) := by
  have g := hR.2.2.2.2.2
  unfold f_Hub_allWakes awS
  have hl : ∀ (n : Nat) (x : Int32) (c : Nat), c < 4 → L_Hub_allWakes_4 q (fun z2 σ3 => some (z2, σ3)) (n + 1) x (nI c) σ = L_Hub_allWakes_4 q (fun z2 σ3 => some (z2, σ3)) n (x + S (7 + c)) (nI (c + 1)) σ := fun n x c hc => by
    show (if (4 : Int32) ≤ nI c then _ else _) = _
    rw [if_neg (show ¬ (4 : Int32) ≤ nI c from nI_ge hc (by decide)), if_pos (ib_nI hc (by decide)), lt_eq, nI_clamp (by omega), g c hc, ← nI_succ]
  show L_Hub_allWakes_4 q (fun z2 σ3 => some (z2, σ3)) (4091 + 1 + 1 + 1 + 1 + 1) 0 (nI 0) σ = _
  rw [hl _ _ 0 (by decide), hl _ _ 1 (by decide), hl _ _ 2 (by decide), hl _ _ 3 (by decide)]
  show (if (4 : Int32) ≤ nI 4 then _ else _) = _
  rw [if_pos (by decide), Int32.zero_add]
theorem s_advance (a1 : Int32) : Same (f_X_advance 0 a1) (f_M_advance 299 a1) := by
  intro σ hI
  obtain ⟨hW, hle, hR⟩ := hI.1
  have h0 := hW.1.1
  have hg0 : σ (0 + 1) 0 = σ 300 0 := hR.1.1
  by_cases h : (1 : Int32) ≤ a1 ∧ a1 ≤ 500
  · have h2 := inR.mp h
    rw [i1T, show (500 : Int32).toInt = 500 by decide] at h2
    by_cases hc : σ 300 0 + a1 ≤ 9999
    · have hc2 := hc
      unfold gI at h0 hle
      have e99 : (9999 : Int32).toInt = 9999 := by decide
      rw [Int32.le_iff_toInt_le, tA (by omega) (by omega), e99] at hc2
      have en : a1 = nI a1.toInt.toNat := toNI (by omega)
      have hn : gI (σ 300) 0 + (a1.toInt.toNat : Int) ≤ 9999 := by unfold gI; omega
      obtain ⟨p1, p2, p3, p4⟩ := pass_W (F := σ 307) (P := pd (σ 300)) hW (fun _ _ => rfl) a1.toInt.toNat (by omega)
      refine act (fx' := fun σ4 => bd (f_Hub_allWakes 1 σ4) fun r5 σ6 => bd (f_Hub_runTicks 1 a1 σ6) fun _ σ8 => bd (f_Hub_allWakes 1 σ8) fun r9 σ10 => some (r9 - r5, σ10)) (fm' := fun σ5 => bd (f_M_allWakes 299 σ5) fun r6 σ7 => bd (f_M_pass 299 a1 σ7) fun _ σ9 => bd (f_M_allWakes 299 σ9) fun r10 σ11 => some (r10 - r6, σ11)) hI (awS (passN (pd (σ 300)) (σ 300, σ 307) a1.toInt.toNat).1 - awS (σ 300)) (passN (pd (σ 300)) (σ 300, σ 307) a1.toInt.toNat).1 p1 (by rw [p3]; omega) ?_ (fun σ1 hR1 hB1 => ?_) (fun τ hτ => ?_) (fun τ hτ => ?_)
      · unfold f_X_advance
        rw [isW, bd_some, if_pos h, if_neg i1n, hg0, if_pos hc]
      · obtain ⟨σ2, e2, r2, m2, w2, b2⟩ := run_X (F := σ 307) (P := pd (σ 300)) (n := a1.toInt.toNat) hW (fun _ _ => rfl) (by omega) (by omega) hR1
        rw [← en] at e2
        refine ⟨σ2, ?_, r2, b2 hB1, fun w hw => w2 w (by omega)⟩
        show bd (f_Hub_allWakes 1 σ1) _ = _
        rw [bd_eq (aw_X hR1.1), bd_eq e2, bd_eq (aw_X r2.1)]
      · unfold f_M_advance
        simp only [Nat.reduceAdd]
        rw [lt_eq, isIn, bd_some, if_pos h, if_neg i1n, show wr τ 299 0 0 300 = σ 300 by rw [wr_other (by decide), hτ], if_pos hc]
      · have t0 := hτ 300 (by decide) (by decide)
        have t7 := hτ 307 (by decide) (by decide)
        obtain ⟨D, P, e⟩ := pass_M (τ := τ) (n := a1.toInt.toNat) (by rw [t0]; exact hW) (by rw [t0]; omega) (by omega)
        rw [t0, t7, ← en] at e
        have hst : (bd (f_M_allWakes 299 τ) fun r6 σ7 => bd (f_M_pass 299 a1 σ7) fun _ σ9 => bd (f_M_allWakes 299 σ9) fun r10 σ11 => some (r10 - r6, σ11)) = some (awS (passN (pd (σ 300)) (σ 300, σ 307) a1.toInt.toNat).1 - awS (σ 300), wrow (wrow (wrow (wrow τ 304 D) 305 P) 307 (passN (pd (σ 300)) (σ 300, σ 307) a1.toInt.toNat).2) 300 (passN (pd (σ 300)) (σ 300, σ 307) a1.toInt.toNat).1) := by
          unfold f_M_allWakes
          simp only [Nat.reduceAdd]
          rw [bd_some, t0, bd_eq e, bd_some, wrow_h]
          rfl
        refine ⟨_, hst, wrow_h, fun w h1 h2 => ?_⟩
        · rw [wrow_m h2, wrow_m (by omega), wrow_m (by omega), wrow_m (by omega)]
    · refine look hI (-3) ?_ ?_
      · unfold f_X_advance
        rw [isW, bd_some, if_pos h, if_neg i1n, hg0, if_neg hc]
      · unfold f_M_advance
        simp only [Nat.reduceAdd]
        rw [lt_eq, isIn, bd_some, if_pos h, if_neg i1n, thr300, if_neg hc]
  · refine look hI (-1) ?_ ?_
    · unfold f_X_advance
      rw [isW, bd_some, if_neg h, if_pos rfl]
    · unfold f_M_advance
      rw [lt_eq, isIn, bd_some, if_neg h, if_pos rfl]
