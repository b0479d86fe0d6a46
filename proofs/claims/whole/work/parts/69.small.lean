/-! smallestCapacity -/
/-- the reference's answer, out of what the run with 30 showed: whether there was a wake for want of room, and the most entries -/
def scF (ok : Bool) (M : Int32) : Nat → Int32
  | 0 => -9
  | c + 1 => if scF ok M c = -9 then (if ok = true ∧ M.toInt ≤ (c : Int) + 1 then nI (c + 1) else -9) else scF ok M c
theorem sc_M {τ0 τ : Mem} {S H : Nat → Int32} {n : Nat} {w8 M : Int32} {w0 : (Nat → Int32) × (Nat → Int32)} (hW : WF S) (hn : gI S 0 + n ≤ 10499) (hn5 : n ≤ 500) (hH : lkS S H) (h0 : lkS S w0.1) (hτ : fcM τ0 τ H w0)
    (hrun : ∀ R F : Nat → Int32, lkS S R → (passN (pd (upS R 4 30)) (upS R 4 30, F) n).1 8 = w8 ∧ moP (pd (upS R 4 30)) (upS R 4 30, F) 0 n = M) : ∃ σ' w', L_M_smallestCapacity_27 299 (nI n) (fun z14 σ15 => some (z14, σ15)) FU (-9) (1 : Int32) τ = some (scF (decide (w8 = S 8)) M 30, σ') ∧ fcM τ0 σ' H w' ∧ lkS S w'.1 := by
  have key : ∀ (j c m : Nat) (w : (Nat → Int32) × (Nat → Int32)) (σ : Mem), c + j = 30 → j < m → fcM τ0 σ H w → lkS S w.1 → scF (decide (w8 = S 8)) M c = -9 → ∃ σ' w', L_M_smallestCapacity_27 299 (nI n) (fun z14 σ15 => some (z14, σ15)) m (-9) (nI (c + 1)) σ = some (scF (decide (w8 = S 8)) M 30, σ') ∧ fcM τ0 σ' H w' ∧ lkS S w'.1 := by
    intro j
    induction j with
    | zero =>
      intro c m w σ hc hm hf hl hs
      obtain ⟨m, rfl⟩ : ∃ z, m = z + 1 := ⟨m - 1, by omega⟩
      have hc : c = 30 := by omega
      subst hc
      refine ⟨σ, w, ?_, hf, hl⟩
      show (if (30 : Int32) < nI 31 then _ else _) = _
      rw [if_pos (by decide), hs]
    | succ j ih =>
      intro c m w σ hc hm hf hl hs
      obtain ⟨m, rfl⟩ : ∃ z, m = z + 2 := ⟨m - 2, by omega⟩
      have hst : scF (decide (w8 = S 8)) M (c + 1) = if (decide (w8 = S 8)) = true ∧ M.toInt ≤ (c : Int) + 1 then nI (c + 1) else -9 := by
        show (if scF (decide (w8 = S 8)) M c = -9 then _ else _) = _
        rw [if_pos hs]
      have ec : (nI (c + 1)).toInt = (c : Int) + 1 := by rw [nI_toInt (by omega)]; omega
      have hWw := WF_congS hl hW
      have g0 : gI w.1 0 = gI S 0 := congrArg Int32.toInt (hl 0 (by omega))
      have g8 : gI w.1 8 = gI S 8 := congrArg Int32.toInt (hl 8 (by omega))
      have hWc : WF (upS w.1 4 (nI (c + 1))) := by
        unfold WF
        rw [show gI (upS w.1 4 (nI (c + 1))) 0 = gI w.1 0 from congrArg Int32.toInt (upS_m (by omega))]
        exact cap_W hWw (by rw [ec]; omega)
      have hW30 : WF (upS w.1 4 30) := by
        unfold WF
        rw [show gI (upS w.1 4 30) 0 = gI w.1 0 from congrArg Int32.toInt (upS_m (by omega))]
        exact cap_W hWw (by rw [i30T]; omega)
      obtain ⟨σ1, e1, f1⟩ := fc_pass (n := n) (fc_wr (p := 4) (x := nI (c + 1)) hf) hWc (by show gI (upS w.1 4 (nI (c + 1))) 0 + n ≤ 10499; rw [show gI (upS w.1 4 (nI (c + 1))) 0 = gI w.1 0 from congrArg Int32.toInt (upS_m (by omega)), g0]; exact hn) hn5
      obtain ⟨σ2, e2, f2⟩ := fc_rel f1
      obtain ⟨r8, rM⟩ := hrun w.1 w.2 hl
      have hrel := (rel_P (S := upS w.1 4 30) (F := w.2) (P := pd (upS w.1 4 30)) (c := nI (c + 1)) hW30 (fun _ _ => rfl) (upS_h rfl) (by rw [ec]; omega) n (by rw [show gI (upS w.1 4 30) 0 = gI w.1 0 from congrArg Int32.toInt (upS_m (by omega)), g0]; exact hn)).2
      have gu8 : gI (upS w.1 4 30) 8 = gI S 8 := by rw [← g8]; exact congrArg Int32.toInt (upS_m (by omega))
      rw [upS_2, rM, ec, gu8, show gI (passN (pd (upS w.1 4 30)) (upS w.1 4 30, w.2) n).1 8 = w8.toInt from congrArg Int32.toInt r8] at hrel
      have hpd : pd (upS w.1 4 30) = pd (upS w.1 4 (nI (c + 1))) := by rw [pd_u4, pd_u4]
      rw [hpd] at hrel r8 rM
      have hcond : ((passN (pd (upS w.1 4 (nI (c + 1)))) (upS w.1 4 (nI (c + 1)), w.2) n).1 8 = w.1 8) ↔ ((decide (w8 = S 8)) = true ∧ M.toInt ≤ (c : Int) + 1) := by
        rw [decide_eq_true_iff, hl 8 (by omega)]
        rcases hrel with ⟨k1, k2, k3⟩ | ⟨k1, k2⟩
        · have k4 : w8 = S 8 := by rw [tE]; exact k1
          refine ⟨fun _ => ⟨k4, k2⟩, fun _ => ?_⟩
          rw [k3]
          show upS (passN (pd (upS w.1 4 (nI (c + 1)))) (upS w.1 4 30, w.2) n).1 4 (nI (c + 1)) 8 = _
          rw [upS_m (by omega), r8, k4]
        · refine ⟨fun h => ?_, fun h => absurd ⟨by rw [h.1]; rfl, h.2⟩ k1⟩
          have := congrArg Int32.toInt h
          unfold gI at k2
          omega
      have x8 : σ1 300 8 = (passN (pd (upS w.1 4 (nI (c + 1)))) (upS w.1 4 (nI (c + 1)), w.2) n).1 8 := by rw [f1.1]
      have v8 : wr σ 300 4 (nI (c + 1)) 300 8 = w.1 8 := by rw [wr_m (by omega), hf.1]
      have hl2 : lkS S (hoR H (passN (pd (upS w.1 4 (nI (c + 1)))) (upS w.1 4 (nI (c + 1)), w.2) n).1) := fun p hp => by
        show (if p < 481 then H p else _) = _
        rw [if_pos hp]
        exact hH p hp
      have hL : L_M_smallestCapacity_27 299 (nI n) (fun z14 σ15 => some (z14, σ15)) (m + 2) (-9) (nI (c + 1)) σ = if (passN (pd (upS w.1 4 (nI (c + 1)))) (upS w.1 4 (nI (c + 1)), w.2) n).1 8 = w.1 8 then L_M_smallestCapacity_27 299 (nI n) (fun z14 σ15 => some (z14, σ15)) (m + 1) (nI (c + 1)) (nI (c + 1 + 1)) σ2 else L_M_smallestCapacity_27 299 (nI n) (fun z14 σ15 => some (z14, σ15)) (m + 1) (-9) (nI (c + 1 + 1)) σ2 := by
        show (if (30 : Int32) < nI (c + 1) then _ else _) = _
        rw [if_neg (show ¬ (30 : Int32) < nI (c + 1) from nI_nlt (show c + 1 ≤ 30 by omega) (by decide)), if_pos rfl, lt_eq, lt_eq]
        simp only [Nat.reduceAdd]
        rw [v8, bd_eq e1, x8, bd_eq e2, bd_eq e2, ← nI_succ]
      rw [hL]
      by_cases hok : (passN (pd (upS w.1 4 (nI (c + 1)))) (upS w.1 4 (nI (c + 1)), w.2) n).1 8 = w.1 8
      · rw [if_pos hok]
        rw [if_pos (hcond.mp hok)] at hst
        have hne : ¬ nI (c + 1) = -9 := fun e => by
          have := congrArg Int32.toInt e
          rw [ec, m9T] at this
          omega
        have hfin : ∀ d, c + 1 ≤ d → scF (decide (w8 = S 8)) M d = nI (c + 1) := by
          intro d hd
          induction d with
          | zero => omega
          | succ d ihd =>
            by_cases e : c = d
            · rw [← e]; exact hst
            · show (if scF (decide (w8 = S 8)) M d = -9 then _ else scF (decide (w8 = S 8)) M d) = _
              rw [ihd (by omega), if_neg hne]
        refine ⟨σ2, _, ?_, f2, hl2⟩
        rw [hfin 30 (by omega)]
        show (if (30 : Int32) < nI (c + 1 + 1) then _ else _) = _
        by_cases h30 : (30 : Int32) < nI (c + 1 + 1)
        · rw [if_pos h30]
        · rw [if_neg h30, if_neg hne]
      · rw [if_neg hok]
        rw [if_neg (fun z => hok (hcond.mpr z))] at hst
        exact ih (c + 1) (m + 1) _ σ2 (by omega) (by omega) f2 hl2 hst
  exact key 30 0 FU w0 τ rfl (by decide) hτ h0 rfl
theorem scF_30 {ok : Bool} {M : Int32} (hM : 0 ≤ M.toInt ∧ M.toInt ≤ 30) : scF ok M 30 = if ok = true then (if (1 : Int32) < M then M else 1) else -9 := by
  have hne : ∀ k : Nat, k < 100 → ¬ nI k = -9 := fun k hk e => by
    have := congrArg Int32.toInt e
    rw [nI_toInt (by omega), m9T] at this
    omega
  by_cases hok : ok = true
  · rw [if_pos hok]
    have h1 : ∀ c : Nat, c < 100 → scF ok M c = if (c : Int) < max 1 M.toInt then -9 else nI (max 1 M.toInt).toNat := by
      intro c
      induction c with
      | zero =>
        intro _
        show (-9 : Int32) = _
        rw [if_pos (by omega)]
      | succ c ih =>
        intro hc
        show (if scF ok M c = -9 then (if ok = true ∧ M.toInt ≤ (c : Int) + 1 then nI (c + 1) else -9) else scF ok M c) = _
        rw [ih (by omega)]
        by_cases hl : (c : Int) < max 1 M.toInt
        · rw [if_pos hl, if_pos rfl]
          by_cases h2 : M.toInt ≤ (c : Int) + 1
          · rw [if_pos ⟨hok, h2⟩, if_neg (by omega)]
            exact congrArg nI (by omega)
          · rw [if_neg (fun z => h2 z.2), if_pos (by omega)]
        · rw [if_neg hl, if_neg (hne _ (by omega)), if_neg (by omega)]
    rw [h1 30 (by decide), if_neg (by omega)]
    by_cases h2 : (1 : Int32) < M
    · have h3 := h2
      rw [Int32.lt_iff_toInt_lt, i1T] at h3
      rw [if_pos h2, tE, nI_toInt (by omega)]
      omega
    · have h3 := h2
      rw [Int32.lt_iff_toInt_lt, i1T] at h3
      rw [if_neg h2, tE, nI_toInt (by omega), i1T]
      omega
  · rw [if_neg hok]
    have h1 : ∀ c : Nat, scF ok M c = -9 := by
      intro c
      induction c with
      | zero => rfl
      | succ c ih =>
        show (if scF ok M c = -9 then (if ok = true ∧ M.toInt ≤ (c : Int) + 1 then nI (c + 1) else -9) else scF ok M c) = _
        rw [if_pos ih, if_neg (fun z => hok z.1)]
    exact h1 30
theorem s_smallestCapacity (a1 : Int32) : Same (f_X_smallestCapacity 0 a1) (f_M_smallestCapacity 299 a1) := by
  intro σ hI
  obtain ⟨hW, hle, hR⟩ := hI.1
  have h0 := hW.1.1
  by_cases h : (1 : Int32) ≤ a1 ∧ a1 ≤ 500
  · have h2 := inR.mp h
    rw [i1T, show (500 : Int32).toInt = 500 by decide] at h2
    have en : a1 = nI a1.toInt.toNat := toNI (by omega)
    have hn5 : a1.toInt.toNat ≤ 500 := by omega
    generalize a1.toInt.toNat = n at *
    subst en
    have hn : gI (σ 300) 0 + (n : Int) ≤ 10499 := by omega
    obtain ⟨σ1, e1, r1, b1, w1⟩ := trial_X hI
    -- the run with 30, whatever stands beyond the row's places and among the flags
    have hrun0 : ∀ R F : Nat → Int32, lkS (σ 300) R → ∃ σ', f_Hub_runTicks 43 (nI n) (wr σ1 43 3 30) = some ((), σ') ∧ RH σ' 43 (passN (pd (upS R 4 30)) (upS R 4 30, F) n).1 ∧ σ' 43 5 = moP (pd (upS R 4 30)) (upS R 4 30, F) 0 n ∧ (∀ w, w < 43 ∨ 43 + 42 ≤ w → σ' w = wr σ1 43 3 30 w) ∧ (FBq (wr σ1 43 3 30) 43 → FBq σ' 43) := fun R F hl => by
      have hWR := WF_congS hl hW
      have g0 : gI R 0 = gI (σ 300) 0 := congrArg Int32.toInt (hl 0 (by omega))
      have hW30 : WF (upS R 4 30) := by
        unfold WF
        rw [show gI (upS R 4 30) 0 = gI R 0 from congrArg Int32.toInt (upS_m (by omega))]
        exact cap_W hWR (by rw [i30T]; omega)
      exact run_X (F := F) (P := pd (upS R 4 30)) (n := n) hW30 (fun _ _ => rfl) (by rw [show gI (upS R 4 30) 0 = gI R 0 from congrArg Int32.toInt (upS_m (by omega)), g0]; exact hn) hn5 (cap_RH hWR (RH_congS hl hW r1))
    obtain ⟨σ2, e2, r2, m2, w2, b2⟩ := hrun0 (σ 300) (σ 307) (fun _ _ => rfl)
    have hrun : ∀ R F : Nat → Int32, lkS (σ 300) R → (passN (pd (upS R 4 30)) (upS R 4 30, F) n).1 8 = σ2 (43 + 1) 1 ∧ moP (pd (upS R 4 30)) (upS R 4 30, F) 0 n = σ2 43 5 := fun R F hl => by
      obtain ⟨σ', e', r', m', _, _⟩ := hrun0 R F hl
      have : σ' = σ2 := by
        have h3 := e'.symm.trans e2
        exact (Prod.mk.inj (Option.some.inj h3)).2
      rw [this] at r' m'
      exact ⟨(r'.1.2.2.2.2.2 1 (by decide)).symm, m'.symm⟩
    have hfb : FBq σ2 43 := b2 (fun i hi => by rw [wr_other (by omega)]; exact b1 i hi)
    have hs2 : ∀ w, (w < 43 ∨ 85 ≤ w) → σ2 w = σ w := fun w hw => by rw [w2 w (by omega), wr_other (by omega), w1 w (by omega)]
    have hR1 : RH σ2 1 (σ 300) := RH_cong (nS_le hW.1) (fun w h1 h2 => hs2 w (by omega)) hR
    -- bounds
    have hW30 : WF (upS (σ 300) 4 30) := by
      unfold WF
      rw [show gI (upS (σ 300) 4 30) 0 = gI (σ 300) 0 from congrArg Int32.toInt (upS_m (by omega))]
      exact cap_W hW (by rw [i30T]; omega)
    have hb := (rel_P (S := upS (σ 300) 4 30) (F := σ 307) (P := pd (upS (σ 300) 4 30)) (c := 30) hW30 (fun _ _ => rfl) (upS_h rfl) (by rw [i30T]; omega) n (by rw [show gI (upS (σ 300) 4 30) 0 = gI (σ 300) 0 from congrArg Int32.toInt (upS_m (by omega))]; exact hn)).1
    have hr1 := hrun (σ 300) (σ 307) (fun _ _ => rfl)
    rw [hr1.2, show gI (upS (σ 300) 4 30) 8 = gI (σ 300) 8 from congrArg Int32.toInt (upS_m (by omega)), show gI (passN (pd (upS (σ 300) 4 30)) (upS (σ 300) 4 30, σ 307) n).1 8 = (σ2 (43 + 1) 1).toInt from congrArg Int32.toInt hr1.1] at hb
    have hcmp : (σ2 (43 + 1) 1 ≤ σ 300 8) ↔ σ2 (43 + 1) 1 = σ 300 8 := by
      rw [Int32.le_iff_toInt_le, tE]
      unfold gI at hb
      omega
    -- the reference
    have t0 : ∀ w, 300 ≤ w → wr σ2 299 0 0 w = σ w := fun w hw => by rw [wr_other (by omega), hs2 w (by omega)]
    have hh := hold_M (τ := wr σ2 299 0 0)
    rw [t0 300 (by decide), t0 303 (by decide)] at hh
    have fc0 : fcM (wr σ2 299 0 0) (wrow (wr σ2 299 0 0) 303 (hoR (σ 300) (σ 303))) (hoR (σ 300) (σ 303)) (σ 300, σ 307) := ⟨by rw [wrow_m (by decide), t0 300 (by decide)], by rw [wrow_m (by decide), t0 307 (by decide)], wrow_h, fun v hv hv0 => wrow_m (by omega)⟩
    have hH : lkS (σ 300) (hoR (σ 300) (σ 303)) := fun p hp => if_pos hp
    obtain ⟨σ6, w', e6, fc3, hlk⟩ := sc_M (S := σ 300) (n := n) (w8 := σ2 (43 + 1) 1) (M := σ2 43 5) hW hn hn5 hH (fun _ _ => rfl) fc0 hrun
    have hx : f_X_smallestCapacity 0 (nI n) σ = some (scF (decide (σ2 (43 + 1) 1 = σ 300 8)) (σ2 43 5) 30, σ2) := by
      unfold f_X_smallestCapacity
      rw [isW, bd_some, if_pos h, if_neg i1n]
      simp only [Nat.zero_add]
      have h13 : (0 : Int32) ≤ 1 ∧ (1 : Int32) ≤ 3 := by decide
      have hk1 := wakesOf_X (p := 1) r2.1 h13
      have hk2 := wakesOf_X (p := 1) hR1.1 h13
      rw [show (7 + (1 : Int32).toInt.toNat) = 8 from by decide] at hk1 hk2
      rw [hr1.1] at hk1
      rw [bd_eq e1, lt_eq, bd_eq e2, bd_eq hk1, bd_eq hk2, scF_30 ⟨hb.2.1, hb.2.2⟩]
      by_cases hc : σ2 (43 + 1) 1 = σ 300 8
      · rw [if_pos (hcmp.mpr hc), bd_eq max_s, if_pos (show decide (σ2 (43 + 1) 1 = σ 300 8) = true by rw [decide_eq_true_iff]; exact hc)]
      · rw [if_neg (fun z => hc (hcmp.mp z)), if_neg (show ¬ decide (σ2 (43 + 1) 1 = σ 300 8) = true by rw [decide_eq_true_iff]; exact hc)]
    have hm : f_M_smallestCapacity 299 (nI n) σ2 = some (scF (decide (σ2 (43 + 1) 1 = σ 300 8)) (σ2 43 5) 30, σ6) := by
      unfold f_M_smallestCapacity
      rw [lt_eq, isIn, bd_some, if_pos h, if_neg i1n, bd_eq hh]
      exact e6
    refine ⟨_, σ2, σ6, hx, hm, inv_fc hI (fun v h1 h2 h3 => ?_) (fun k hk => ?_) ?_ ?_ ?_⟩
    · rw [fc3.2.2.2 v (by omega) h3, wr_other h2, hs2 v (by omega)]
    · rw [fc3.1]; exact hlk k hk
    · rw [fc3.2.2.2 299 (by decide) (by decide), wr_m (by decide), hs2 299 (by omega)]
    · rw [fc3.2.2.2 299 (by decide) (by decide), wr_m (by decide), hs2 299 (by omega)]
    · refine FBq_cong (fun v h1 h2 => ?_) hfb
      rw [fc3.2.2.2 v (by omega) (by omega), wr_other (by omega)]
  · refine look hI (-1) ?_ ?_
    · unfold f_X_smallestCapacity
      rw [isW, bd_some, if_neg h, if_pos rfl]
    · unfold f_M_smallestCapacity
      rw [lt_eq, isIn, bd_some, if_neg h, if_pos rfl]
