/-! tightestClient: the reference; both sides -/
/-- what the reference's memory is between two forecasts of a call -/
def fcM (τ0 σ : Mem) (H : Nat → Int32) (w : (Nat → Int32) × (Nat → Int32)) : Prop := σ 300 = w.1 ∧ σ 307 = w.2 ∧ σ 303 = H ∧ ∀ v, v < 303 → v ≠ 300 → σ v = τ0 v
theorem fc_pass {τ0 σ : Mem} {H : Nat → Int32} {w : (Nat → Int32) × (Nat → Int32)} {n : Nat} (h : fcM τ0 σ H w) (hW : WF w.1) (hn : gI w.1 0 + n ≤ 10499) (hn5 : n ≤ 500) : ∃ σ', f_M_pass 299 (nI n) σ = some ((), σ') ∧ fcM τ0 σ' H (passN (pd w.1) w n) := by
  obtain ⟨h1, h2, h3, h4⟩ := h
  obtain ⟨D, P, e⟩ := pass_M (τ := σ) (n := n) (by rw [h1]; exact hW) (by rw [h1]; exact hn) hn5
  rw [h1, h2] at e
  refine ⟨_, e, wrow_h, ?_, ?_, fun v hv hv0 => ?_⟩
  · rw [wrow_m (by decide), wrow_h]
  · rw [wrow_m (by decide), wrow_m (by decide), wrow_m (by decide), wrow_m (by decide)]
    exact h3
  · rw [wrow_m hv0, wrow_m (by omega), wrow_m (by omega), wrow_m (by omega)]
    exact h4 v hv hv0
theorem fc_rel {τ0 σ : Mem} {H : Nat → Int32} {w : (Nat → Int32) × (Nat → Int32)} (h : fcM τ0 σ H w) : ∃ σ', f_M_release 299 σ = some ((), σ') ∧ fcM τ0 σ' H (hoR H w.1, w.2) := by
  obtain ⟨h1, h2, h3, h4⟩ := h
  have e := release_M (τ := σ)
  rw [h1, h3] at e
  refine ⟨_, e, wrow_h, ?_, ?_, fun v hv hv0 => ?_⟩
  · rw [wrow_m (by decide)]; exact h2
  · rw [wrow_m (by decide)]; exact h3
  · rw [wrow_m hv0]; exact h4 v hv hv0
theorem fc_wr {τ0 σ : Mem} {H : Nat → Int32} {w : (Nat → Int32) × (Nat → Int32)} {p : Nat} {x : Int32} (h : fcM τ0 σ H w) : fcM τ0 (wr σ 300 p x) H (upS w.1 p x, w.2) := by
  obtain ⟨h1, h2, h3, h4⟩ := h
  refine ⟨by rw [wr_row, wrow_h, h1], ?_, ?_, fun v hv hv0 => ?_⟩
  · rw [wr_other (by decide)]; exact h2
  · rw [wr_other (by decide)]; exact h3
  · rw [wr_other hv0]; exact h4 v hv hv0
theorem fc_aw {τ0 σ : Mem} {H : Nat → Int32} {w : (Nat → Int32) × (Nat → Int32)} (h : fcM τ0 σ H w) : f_M_allWakes 299 σ = some (awS w.1, σ) := by
  unfold f_M_allWakes
  simp only [Nat.reduceAdd]
  rw [h.1]
  rfl
theorem tig_M {τ0 τ : Mem} {S H : Nat → Int32} {n : Nat} {w0 : (Nat → Int32) × (Nat → Int32)} {f0 b0 : Int32} (hW : WF S) (hn : gI S 0 + n ≤ 10499) (hn5 : n ≤ 500) (hH : lkS S H) (h0 : lkS S w0.1) (hf : 0 ≤ f0.toInt ∧ f0.toInt ≤ 100000) (hb : 0 ≤ b0.toInt ∧ b0.toInt ≤ 100000) (hτ : fcM τ0 τ H w0) : ∃ σ' w', L_M_tightestClient_50 299 (nI n) b0 (fun z25 σ26 => some (z25, σ26)) FU (f0 - b0) (-9) (0 : Int32) τ = some ((tgB S H n w0 f0 8).2, σ') ∧ fcM τ0 σ' H w' ∧ lkS S w'.1 := by
  obtain ⟨a, σ', e, ha, i1⟩ := loopA (fun m (a : Int32 × Int32) x τ => L_M_tightestClient_50 299 (nI n) b0 (fun z25 σ26 => some (z25, σ26)) m (a.1 - b0) a.2 x τ) (fun a σ22 => some (a.2, σ22)) 8 (fun k a σ => a = tgB S H n w0 f0 k ∧ fcM τ0 σ H (tgW S H n w0 k))
    (fun m a τ _ => by show (if (8 : Int32) ≤ nI 8 then _ else _) = _; rw [if_pos (by decide)])
    (fun m k a σ hk hI => by
      obtain ⟨rfl, i1⟩ := hI
      have hl := tgW_lk (n := n) hH h0 k
      have hst : tgB S H n w0 f0 (k + 1) = if S (163 + 27 * k) = 1 then (if (tgB S H n w0 f0 k).1 ≤ awS (tgP n k (tgW S H n w0 k)).1 then tgB S H n w0 f0 k else (awS (tgP n k (tgW S H n w0 k)).1, nI k)) else tgB S H n w0 f0 k := rfl
      have hsw : tgW S H n w0 (k + 1) = if S (163 + 27 * k) = 1 then (hoR H (tgP n k (tgW S H n w0 k)).1, (tgP n k (tgW S H n w0 k)).2) else tgW S H n w0 k := rfl
      show ∃ a' σ', (if (8 : Int32) ≤ nI k then _ else _) = _ ∧ _
      rw [if_neg (ge8 hk), bcli (p := 163 + 27 * k) 0 0 (by decide) hk (by decide) (by omega), i1.1, hl _ (by omega), ← nI_succ]
      by_cases h1 : S (163 + 27 * k) = 1
      · obtain ⟨q1, q2, q3, q4⟩ := tgP_W (F := (tgW S H n w0 k).2) (n := n) hW hn hl hk
        have e9 : (163 : Int32) + 27 * nI k + 3 = nI (166 + 27 * k) := by
          rw [nI_Lm, nI_La, nI_aL]
          exact congrArg nI (by omega)
        obtain ⟨σ1, e1, f1⟩ := fc_pass (n := n) (fc_wr (p := 166 + 27 * k) (x := 400) i1) q1 (by show gI (dlyS (tgW S H n w0 k).1 k) 0 + n ≤ 10499; rw [q2]; exact hn) hn5
        obtain ⟨σ2, e2, f2⟩ := fc_rel f1
        have hin := tgB_in (n := n) (f0 := f0) hW hn hH h0 hf k (by omega)
        have hta : 0 ≤ (awS (tgP n k (tgW S H n w0 k)).1).toInt ∧ (awS (tgP n k (tgW S H n w0 k)).1).toInt ≤ 100000 := (aw_in q3 (by omega)).2
        have hcmp : ((tgB S H n w0 f0 k).1 - b0 ≤ awS (tgP n k (tgW S H n w0 k)).1 - b0) ↔ (tgB S H n w0 f0 k).1 ≤ awS (tgP n k (tgW S H n w0 k)).1 := by
          rw [Int32.le_iff_toInt_le, Int32.le_iff_toInt_le, tS (by omega) (by omega), tS (by omega) (by omega)]
          omega
        rw [if_pos h1] at hst hsw
        rw [if_pos h1, e9, if_pos (ib_nI (by omega) (by decide)), lt_eq, nI_clamp (by omega)]
        simp only [Nat.reduceAdd]
        rw [bd_eq e1, bd_eq (fc_aw f1), lt_eq, bd_eq e2, hst, hsw]
        change ∃ a' σ', (if (tgB S H n w0 f0 k).1 - b0 ≤ awS (tgP n k (tgW S H n w0 k)).1 - b0 then _ else _) = _ ∧ _
        by_cases hc : (tgB S H n w0 f0 k).1 ≤ awS (tgP n k (tgW S H n w0 k)).1
        · rw [if_pos (hcmp.mpr hc), if_pos (show (tgB S H n w0 f0 k).1 - b0 ≤ awS (passN (pd (upS (tgW S H n w0 k).1 (166 + 27 * k) 400)) (upS (tgW S H n w0 k).1 (166 + 27 * k) 400, (tgW S H n w0 k).2) n).1 - b0 from hcmp.mpr hc), if_pos hc]
          exact ⟨_, σ2, rfl, rfl, f2⟩
        · rw [if_neg (fun z => hc (hcmp.mp z)), if_neg (show ¬ (tgB S H n w0 f0 k).1 - b0 ≤ awS (passN (pd (upS (tgW S H n w0 k).1 (166 + 27 * k) 400)) (upS (tgW S H n w0 k).1 (166 + 27 * k) 400, (tgW S H n w0 k).2) n).1 - b0 from fun z => hc (hcmp.mp z)), if_neg hc]
          exact ⟨(awS (tgP n k (tgW S H n w0 k)).1, nI k), σ2, rfl, rfl, f2⟩
      · rw [if_neg h1] at hst hsw
        rw [if_neg h1, hst, hsw]
        exact ⟨_, σ, rfl, rfl, i1⟩) 8 0 FU (f0, -9) τ rfl (by decide) ⟨rfl, hτ⟩
  refine ⟨σ', _, ?_, i1, tgW_lk hH h0 8⟩
  rw [← ha]
  exact e
theorem s_tightestClient (a1 : Int32) : Same (f_X_tightestClient 0 a1) (f_M_tightestClient 299 a1) := by
  intro σ hI
  obtain ⟨hW, hle, hR⟩ := hI.1
  have h0 := hW.1.1
  by_cases h : (1 : Int32) ≤ a1 ∧ a1 ≤ 500
  · have h2 := inR.mp h
    rw [i1T, show (500 : Int32).toInt = 500 by decide] at h2
    have en : a1 = nI a1.toInt.toNat := toNI (by omega)
    have hn5 : a1.toInt.toNat ≤ 500 := by omega
    generalize a1.toInt.toNat = n at *
    subst en
    have hn : gI (σ 300) 0 + (n : Int) ≤ 10499 := by omega
    obtain ⟨σ1, e1, r1, b1, w1⟩ := trial_X hI
    obtain ⟨σ2, e2, r2, m2, w2, b2⟩ := run_X (σ := σ1) (F := σ 307) (P := pd (σ 300)) (n := n) hW (fun _ _ => rfl) hn hn5 r1
    obtain ⟨p1, p2, p3, p4⟩ := pass_W (F := σ 307) (P := pd (σ 300)) hW (fun _ _ => rfl) n hn
    have hs2 : ∀ w, (w < 43 ∨ 85 ≤ w) → σ2 w = σ w := fun w hw => by rw [w2 w (by omega), w1 w (by omega)]
    have hH : lkS (σ 300) (hoR (σ 300) (σ 303)) := fun p hp => if_pos hp
    have hw0 : lkS (σ 300) (hoR (hoR (σ 300) (σ 303)) (passN (pd (σ 300)) (σ 300, σ 307) n).1, (passN (pd (σ 300)) (σ 300, σ 307) n).2).1 := fun p hp => by
      show (if p < 481 then (if p < 481 then σ 300 p else _) else _) = _
      rw [if_pos hp, if_pos hp]
    have haw0 := aw_in hW (by omega)
    have hawn := aw_in p1 (by omega)
    obtain ⟨σ3, e3, f3, b3⟩ := tig_X (σ := σ) (H := hoR (σ 300) (σ 303)) (n := n) (w0 := (hoR (hoR (σ 300) (σ 303)) (passN (pd (σ 300)) (σ 300, σ 307) n).1, (passN (pd (σ 300)) (σ 300, σ 307) n).2)) (f0 := awS (passN (pd (σ 300)) (σ 300, σ 307) n).1) hW hR hI.2.2.2.1 hn hn5 hH hw0 hs2 (b2 b1)
    -- the reference
    have t0 : ∀ w, 300 ≤ w → wr σ3 299 0 0 w = σ w := fun w hw => by rw [wr_other (by omega), f3 w (by omega)]
    have hh := hold_M (τ := wr σ3 299 0 0)
    rw [t0 300 (by decide), t0 303 (by decide)] at hh
    have fc0 : fcM (wr σ3 299 0 0) (wrow (wr σ3 299 0 0) 303 (hoR (σ 300) (σ 303))) (hoR (σ 300) (σ 303)) (σ 300, σ 307) := ⟨by rw [wrow_m (by decide), t0 300 (by decide)], by rw [wrow_m (by decide), t0 307 (by decide)], wrow_h, fun v hv hv0 => wrow_m (by omega)⟩
    obtain ⟨σ4, e4, fc1⟩ := fc_pass (n := n) fc0 hW hn hn5
    obtain ⟨σ5, e5, fc2⟩ := fc_rel fc1
    obtain ⟨σ6, w', e6, fc3, hlk⟩ := tig_M (S := σ 300) (n := n) (f0 := awS (passN (pd (σ 300)) (σ 300, σ 307) n).1) (b0 := awS (σ 300)) hW hn hn5 hH hw0 ⟨hawn.2.1, hawn.2.2⟩ ⟨haw0.2.1, haw0.2.2⟩ fc2
    have hx : f_X_tightestClient 0 (nI n) σ = some ((tgB (σ 300) (hoR (σ 300) (σ 303)) n (hoR (hoR (σ 300) (σ 303)) (passN (pd (σ 300)) (σ 300, σ 307) n).1, (passN (pd (σ 300)) (σ 300, σ 307) n).2) (awS (passN (pd (σ 300)) (σ 300, σ 307) n).1) 8).2, σ3) := by
      unfold f_X_tightestClient
      rw [isW, bd_some, if_pos h, if_neg i1n]
      simp only [Nat.zero_add]
      rw [bd_eq e1, bd_eq e2, bd_eq (aw_X r2.1)]
      exact e3
    have hm : f_M_tightestClient 299 (nI n) σ3 = some ((tgB (σ 300) (hoR (σ 300) (σ 303)) n (hoR (hoR (σ 300) (σ 303)) (passN (pd (σ 300)) (σ 300, σ 307) n).1, (passN (pd (σ 300)) (σ 300, σ 307) n).2) (awS (passN (pd (σ 300)) (σ 300, σ 307) n).1) 8).2, σ6) := by
      unfold f_M_tightestClient
      rw [lt_eq, isIn, bd_some, if_pos h, if_neg i1n, bd_eq hh, bd_eq (fc_aw fc0), bd_eq e4, bd_eq (fc_aw fc1), lt_eq, bd_eq e5]
      exact e6
    refine ⟨_, σ3, σ6, hx, hm, inv_fc hI (fun v h1 h2 h3 => ?_) (fun k hk => ?_) ?_ ?_ ?_⟩
    · rw [fc3.2.2.2 v (by omega) h3, wr_other h2, f3 v (by omega)]
    · rw [fc3.1]; exact hlk k hk
    · rw [fc3.2.2.2 299 (by decide) (by decide), wr_m (by decide), f3 299 (by omega)]
    · rw [fc3.2.2.2 299 (by decide) (by decide), wr_m (by decide), f3 299 (by omega)]
    · refine FBq_cong (fun v h1 h2 => ?_) b3
      rw [fc3.2.2.2 v (by omega) (by omega), wr_other (by omega)]
  · refine look hI (-1) ?_ ?_
    · unfold f_X_tightestClient
      rw [isW, bd_some, if_neg h, if_pos rfl]
    · unfold f_M_tightestClient
      rw [lt_eq, isIn, bd_some, if_neg h, if_pos rfl]
