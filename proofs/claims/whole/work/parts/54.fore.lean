/-! hold and release; forecastWakes; undo -/
def hoR (A B : Nat → Int32) : Nat → Int32 := fun p => if p < 481 then A p else B p
theorem hold_M {τ : Mem} : f_M_hold 299 τ = some ((), wrow τ 303 (hoR (τ 300) (τ 303))) := by
  unfold f_M_hold
  obtain ⟨σ', e, rfl⟩ := loopR (L_M_hold_2 299 (fun σ2 => some ((), σ2))) (fun σ2 => some ((), σ2)) 481 (fun i σ => σ = wrow τ 303 (fun p => if p < i then τ 300 p else τ 303 p))
    (fun n σ _ => by show (if (481 : Int32) ≤ nI 481 then _ else _) = _; rw [if_pos (by decide)])
    (fun n i σ hi hI => by
      subst hI
      refine ⟨_, ?_, rfl⟩
      show (if (481 : Int32) ≤ nI i then _ else _) = _
      rw [if_neg (show ¬ (481 : Int32) ≤ nI i from nI_ge hi (by decide)), if_pos (ib_nI (by omega) (by decide)), if_pos (ib_nI (by omega) (by decide)), lt_eq, nI_clamp (by omega), ← nI_succ]
      simp only [Nat.reduceAdd]
      rw [wr_row, wrow_h, wrow_2, wrow_m (v := 303) (b := 300) (by decide)]
      refine congrArg (fun f => L_M_hold_2 299 _ n (nI (i + 1)) (wrow τ 303 f)) ?_
      funext p
      by_cases e : p = i
      · rw [upS_h e, if_pos (by omega), e]
      · rw [upS_m e]
        by_cases h : p < i
        · rw [if_pos h, if_pos (by omega)]
        · rw [if_neg h, if_neg (by omega)]) 481 0 FU τ rfl (by decide) (by
      show τ = wrow τ 303 (fun p => if p < 0 then τ 300 p else τ 303 p)
      have : (fun p => if p < 0 then τ 300 p else τ 303 p) = τ 303 := by
        funext p
        rw [if_neg (by omega)]
      rw [this, wrow_id])
  exact e
theorem release_M {τ : Mem} : f_M_release 299 τ = some ((), wrow τ 300 (hoR (τ 303) (τ 300))) := by
  unfold f_M_release
  obtain ⟨σ', e, rfl⟩ := loopR (L_M_release_2 299 (fun σ2 => some ((), σ2))) (fun σ2 => some ((), σ2)) 481 (fun i σ => σ = wrow τ 300 (fun p => if p < i then τ 303 p else τ 300 p))
    (fun n σ _ => by show (if (481 : Int32) ≤ nI 481 then _ else _) = _; rw [if_pos (by decide)])
    (fun n i σ hi hI => by
      subst hI
      refine ⟨_, ?_, rfl⟩
      show (if (481 : Int32) ≤ nI i then _ else _) = _
      rw [if_neg (show ¬ (481 : Int32) ≤ nI i from nI_ge hi (by decide)), if_pos (ib_nI (by omega) (by decide)), if_pos (ib_nI (by omega) (by decide)), lt_eq, nI_clamp (by omega), ← nI_succ]
      simp only [Nat.reduceAdd]
      rw [wr_row, wrow_h, wrow_2, wrow_m (v := 300) (b := 303) (by decide)]
      refine congrArg (fun f => L_M_release_2 299 _ n (nI (i + 1)) (wrow τ 300 f)) ?_
      funext p
      by_cases e : p = i
      · rw [upS_h e, if_pos (by omega), e]
      · rw [upS_m e]
        by_cases h : p < i
        · rw [if_pos h, if_pos (by omega)]
        · rw [if_neg h, if_neg (by omega)]) 481 0 FU τ rfl (by decide) (by
      show τ = wrow τ 300 (fun p => if p < 0 then τ 303 p else τ 300 p)
      have : (fun p => if p < 0 then τ 303 p else τ 300 p) = τ 300 := by
        funext p
        rw [if_neg (by omega)]
      rw [this, wrow_id])
  exact e
/-- a forecast has changed the trial and the reference's own rows alone -/
theorem inv_fc {σ σ' : Mem} (hI : Inv σ) (h : ∀ w, w < 43 ∨ (85 ≤ w ∧ w < 303) → w ≠ 299 → w ≠ 300 → σ' w = σ w) (h300 : ∀ k, k < 481 → σ' 300 k = σ 300 k) (h3 : σ' 299 3 = σ 299 3) (h5 : σ' 299 5 = σ 299 5) (hT : FBq σ' 43) : Inv σ' := by
  have hI1 : Inv (wrow σ' 300 (σ 300)) := inv_keep (fun w hw hn => by
    by_cases e : w = 300
    · rw [e, wrow_h]
    · rw [wrow_m e]
      exact h w hw hn e) (by rw [wrow_m (by decide)]; exact h3) (by rw [wrow_m (by decide)]; exact h5) (FBq_cong (fun w _ _ => wrow_m (by omega)) hT) hI
  obtain ⟨⟨a1, a2, a3⟩, ⟨b1, b2, b3, b4⟩, ⟨c1, c2, c3⟩, f1, f2, f3⟩ := hI1
  rw [wrow_h] at a1 a2 a3
  have m : ∀ w, w ≠ 300 → wrow σ' 300 (σ 300) w = σ' w := fun w hw => wrow_m hw
  rw [m 85 (by decide), m 299 (by decide), m 301 (by decide)] at *
  refine ⟨⟨WF_congS h300 a1, ?_, RH_congS h300 a1 (RH_cong (nS_le a1.1) (fun w h1 h2 => (m w (by omega)).symm) a3)⟩, ⟨b1, b2, b3, fun j hj => ?_⟩, ⟨?_, ?_, ?_⟩, ?_, hT, fun r hr => ?_⟩
  · rw [show gI (σ' 300) 0 = gI (σ 300) 0 from congrArg Int32.toInt (h300 0 (by decide))]
    exact a2
  · obtain ⟨d1, d2, d3⟩ := b4 j hj
    have hm : ((σ' 85 1).toInt.toNat + 4 - j) % 5 < 5 := Nat.mod_lt _ (by decide)
    exact ⟨d1, d2, RH_cong (nS_le d1.1) (fun w h1 h2 => (m w (by omega)).symm) d3⟩
  · rw [m 297 (by decide)] at c1; exact c1
  · rw [m 297 (by decide)] at c2; exact c2
  · rw [m 297 (by decide), m 298 (by decide), m 302 (by decide)] at c3; exact c3
  · exact FBq_cong (fun w h1 h2 => (m w (by omega)).symm) f1
  · exact FBq_cong (fun w h1 h2 => (m w (by omega)).symm) (f3 r hr)
theorem wakesOf_X {σ : Mem} {q : Nat} {S : Nat → Int32} {p : Int32} (hR : RG σ q S) (h : (0 : Int32) ≤ p ∧ p ≤ 3) : f_Hub_wakesOf q p σ = some (S (7 + p.toInt.toNat), σ) := by
  have h2 := inR.mp h
  rw [z0T, show (3 : Int32).toInt = 3 by decide] at h2
  unfold f_Hub_wakesOf
  rw [isW, bd_some, if_pos h, if_neg i1n, if_pos (show ib p 4 from ⟨h2.1, by omega⟩), ← hR.2.2.2.2.2 p.toInt.toNat (by omega)]
  rfl
/-- the trial as a copy of the hub -/
theorem trial_X {σ : Mem} (hI : Inv σ) : ∃ σ', f_Hub_copyFrom 43 1 σ = some ((), σ') ∧ RH σ' 43 (σ 300) ∧ FBq σ' 43 ∧ ∀ w, (w < 43 ∨ 85 ≤ w) → σ' w = σ w := by
  obtain ⟨hW, hle, hR⟩ := hI.1
  obtain ⟨σ', e, h1, h2⟩ := copy_X (σ := σ) (q := 43) (q1 := 1) (by omega) hI.2.2.2.1 (RH_pres hW hR)
  exact ⟨σ', e, CP_RH hW.1 h2 hR, CP_FB h2 hI.2.2.2.1, fun w hw => h1 w (by omega)⟩
theorem s_forecastWakes (a1 a2 : Int32) : Same (f_X_forecastWakes 0 a1 a2) (f_M_forecastWakes 299 a1 a2) := by
  intro σ hI
  obtain ⟨hW, hle, hR⟩ := hI.1
  have h0 := hW.1.1
  by_cases h : (1 : Int32) ≤ a1 ∧ a1 ≤ 500
  · have h2 := inR.mp h
    rw [i1T, show (500 : Int32).toInt = 500 by decide] at h2
    by_cases hc : (0 : Int32) ≤ a2 ∧ a2 ≤ 1
    · have hc2 := inR.mp hc
      rw [z0T, i1T] at hc2
      have hc3 : (0 : Int32) ≤ a2 ∧ a2 ≤ 3 := inR.mpr ⟨by rw [z0T]; omega, by rw [show (3 : Int32).toInt = 3 by decide]; omega⟩
      have en : a1 = nI a1.toInt.toNat := toNI (by omega)
      have i7 : (7 : Int32).toInt = 7 := by decide
      have e7 : ((7 : Int32) + a2).toInt = 7 + a2.toInt := by rw [tA (by rw [i7]; omega) (by rw [i7]; omega), i7]
      have n7 : ((7 : Int32) + a2).toNatClampNeg = 7 + a2.toInt.toNat := by show ((7 : Int32) + a2).toInt.toNat = _; rw [e7]; omega
      have hib : ib ((7 : Int32) + a2) 481 := ⟨by omega, by omega⟩
      obtain ⟨σ1, e1, r1, b1, w1⟩ := trial_X hI
      obtain ⟨σ2, e2, r2, m2, w2, b2⟩ := run_X (σ := σ1) (F := σ 307) (P := pd (σ 300)) (n := a1.toInt.toNat) hW (fun _ _ => rfl) (by omega) (by omega) r1
      rw [← en] at e2
      have hR1 : RH σ2 1 (σ 300) := RH_cong (nS_le hW.1) (fun w h1 h2 => by rw [w2 w (by omega), w1 w (by omega)]) hR
      have hs2 : ∀ w, 85 ≤ w → σ2 w = σ w := fun w hw => by rw [w2 w (by omega), w1 w (by omega)]
      have t0 : ∀ w, 300 ≤ w → wr σ2 299 0 0 w = σ w := fun w hw => by rw [wr_other (by omega), hs2 w (by omega)]
      -- the reference
      have hh := hold_M (τ := wr σ2 299 0 0)
      rw [t0 300 (by decide), t0 303 (by decide)] at hh
      have q0 : wrow (wr σ2 299 0 0) 303 (hoR (σ 300) (σ 303)) 300 = σ 300 := by rw [wrow_m (by decide), t0 300 (by decide)]
      have q7 : wrow (wr σ2 299 0 0) 303 (hoR (σ 300) (σ 303)) 307 = σ 307 := by rw [wrow_m (by decide), t0 307 (by decide)]
      obtain ⟨D, P, e3⟩ := pass_M (τ := wrow (wr σ2 299 0 0) 303 (hoR (σ 300) (σ 303))) (n := a1.toInt.toNat) (by rw [q0]; exact hW) (by rw [q0]; omega) (by omega)
      rw [q0, q7, ← en] at e3
      generalize hSn : passN (pd (σ 300)) (σ 300, σ 307) a1.toInt.toNat = w at *
      generalize hτ : wrow (wrow (wrow (wrow (wrow (wr σ2 299 0 0) 303 (hoR (σ 300) (σ 303))) 304 D) 305 P) 307 w.2) 300 w.1 = τ2 at *
      have x300 : τ2 300 = w.1 := by rw [← hτ, wrow_h]
      have x303 : τ2 303 = hoR (σ 300) (σ 303) := by
        rw [← hτ, wrow_m (by decide), wrow_m (by decide), wrow_m (by decide), wrow_m (by decide), wrow_h]
      have xo : ∀ v, v < 303 → v ≠ 300 → τ2 v = wr σ2 299 0 0 v := fun v h1 h2 => by
        rw [← hτ, wrow_m h2, wrow_m (by omega), wrow_m (by omega), wrow_m (by omega), wrow_m (by omega)]
      have hrl := release_M (τ := τ2)
      rw [x300, x303] at hrl
      refine ⟨w.1 (7 + a2.toInt.toNat) - σ 300 (7 + a2.toInt.toNat), σ2, wrow τ2 300 (hoR (hoR (σ 300) (σ 303)) w.1), ?_, ?_, ?_⟩
      · unfold f_X_forecastWakes
        rw [isW, bd_some, if_pos h, if_neg i1n, isW, bd_some, if_pos hc, if_neg i1n]
        simp only [Nat.zero_add]
        rw [bd_eq e1, bd_eq e2, bd_eq (wakesOf_X r2.1 hc3), bd_eq (wakesOf_X hR1.1 hc3)]
      · unfold f_M_forecastWakes
        rw [lt_eq, isIn, bd_some, if_pos h, if_neg i1n, isIn, bd_some, if_pos hc, if_neg i1n, bd_eq hh, if_pos hib, lt_eq, n7]
        simp only [Nat.reduceAdd]
        rw [q0, bd_eq e3, if_pos hib, lt_eq, x300, bd_eq hrl]
      · refine inv_fc hI (fun v h1 h2 h3 => ?_) (fun k hk => ?_) ?_ ?_ ?_
        · rw [wrow_m h3, xo v (by omega) h3, wr_other h2, w2 v (by omega), w1 v (by omega)]
        · rw [wrow_h]
          show (if k < 481 then (if k < 481 then σ 300 k else σ 303 k) else w.1 k) = _
          rw [if_pos hk, if_pos hk]
        · rw [wrow_m (by decide), xo 299 (by decide) (by decide), wr_m (by decide), hs2 299 (by decide)]
        · rw [wrow_m (by decide), xo 299 (by decide) (by decide), wr_m (by decide), hs2 299 (by decide)]
        · refine FBq_cong (fun v h1 h2 => ?_) (b2 b1)
          rw [wrow_m (by omega), xo v (by omega) (by omega), wr_other (by omega)]
    · refine look hI (-1) ?_ ?_
      · unfold f_X_forecastWakes
        rw [isW, bd_some, if_pos h, if_neg i1n, isW, bd_some, if_neg hc, if_pos rfl]
      · unfold f_M_forecastWakes
        rw [lt_eq, isIn, bd_some, if_pos h, if_neg i1n, isIn, bd_some, if_neg hc, if_pos rfl]
  · refine look hI (-1) ?_ ?_
    · unfold f_X_forecastWakes
      rw [isW, bd_some, if_neg h, if_pos rfl]
    · unfold f_M_forecastWakes
      rw [lt_eq, isIn, bd_some, if_neg h, if_pos rfl]
theorem undo_a {τ : Mem} {K : Mem → Option (Int32 × Mem)} {N : Nat} (hN : N ≤ 4) (h3 : τ 299 3 = nI N) : L_M_undo_27 299 K FU 0 τ = K (wrow τ 300 (hoR (fun p => τ 301 (481 * N + p)) (τ 300))) := by
  obtain ⟨σ', e, rfl⟩ := loopR (L_M_undo_27 299 K) K 481 (fun i σ => σ = wrow τ 300 (fun p => if p < i then τ 301 (481 * N + p) else τ 300 p))
    (fun n σ _ => by show (if (481 : Int32) ≤ nI 481 then _ else _) = _; rw [if_pos (by decide)])
    (fun n i σ hi hI => by
      subst hI
      refine ⟨_, ?_, rfl⟩
      have e9 : (481 : Int32) * nI N + nI i = nI (481 * N + i) := by
        rw [nI_Lm, nI_add]
      show (if (481 : Int32) ≤ nI i then _ else _) = _
      rw [if_neg (show ¬ (481 : Int32) ≤ nI i from nI_ge hi (by decide)), wrow_m (v := 300) (b := 299) (by decide), h3, e9, if_pos (ib_nI (by omega) (by decide)), if_pos (ib_nI (by omega) (by decide)), lt_eq, nI_clamp (by omega), nI_clamp (by omega), ← nI_succ]
      simp only [Nat.reduceAdd]
      rw [wr_row, wrow_h, wrow_2, wrow_m (v := 300) (b := 301) (by decide)]
      refine congrArg (fun f => L_M_undo_27 299 K n (nI (i + 1)) (wrow τ 300 f)) ?_
      funext p
      by_cases e : p = i
      · rw [upS_h e, if_pos (by omega), e]
      · rw [upS_m e]
        by_cases h : p < i
        · rw [if_pos h, if_pos (by omega)]
        · rw [if_neg h, if_neg (by omega)]) 481 0 FU τ rfl (by decide) (by
      show τ = wrow τ 300 (fun p => if p < 0 then τ 301 (481 * N + p) else τ 300 p)
      have : (fun p => if p < 0 then τ 301 (481 * N + p) else τ 300 p) = τ 300 := by
        funext p
        rw [if_neg (by omega)]
      rw [this, wrow_id])
  exact e
theorem s_undo : Same (f_X_undo 0) (f_M_undo 299) := by
  intro σ hI
  obtain ⟨⟨a1, a2, a3⟩, ⟨b1, b2, b3, b4⟩, ⟨c1, c2, c3⟩, f1, f2, f3⟩ := id hI
  have w3 : wr σ 299 0 0 299 3 = σ 85 0 := by rw [wr_m (by decide), b3]
  by_cases h : σ 85 0 = 0
  · refine look hI (-2) ?_ ?_
    · unfold f_X_undo
      rw [if_pos h]
    · unfold f_M_undo
      rw [lt_eq, w3, if_pos h]
  · have en : σ 85 1 = nI (σ 85 1).toInt.toNat := toNI b2.1
    have es : σ 85 0 = nI (σ 85 0).toInt.toNat := toNI b1.1
    have hnx : (σ 85 1).toInt.toNat < 5 := by omega
    have hsz : 1 ≤ (σ 85 0).toInt.toNat ∧ (σ 85 0).toInt.toNat ≤ 5 := by
      have : (σ 85 0).toInt ≠ 0 := fun e => h (by rw [tE, z0T]; exact e)
      omega
    have hh := fun j hj => b4 j hj
    clear b4
    have hsi : (σ 85 0).toInt = ((σ 85 0).toInt.toNat : Int) := by omega
    generalize hx : (σ 85 1).toInt.toNat = x at *
    generalize hnn : (σ 85 0).toInt.toNat = n at *
    obtain ⟨d1, d2, d3⟩ := hh 0 (by omega)
    rw [show (x + 4 - 0) % 5 = (x + 4) % 5 from rfl, show n - 1 - 0 = n - 1 from rfl] at *
    have hm : (x + 4) % 5 < 5 := Nat.mod_lt _ (by decide)
    -- the class
    have m1 : f_Mat_floorMod (σ 85 1 - 1) 5 σ = some (nI ((x + 4) % 5), σ) := by
      have i5 : (5 : Int32).toInt = 5 := by decide
      have e1 : (σ 85 1 - 1).toInt = (x : Int) - 1 := by rw [tS (by rw [i1T]; omega) (by rw [i1T]; omega), i1T]; omega
      rw [fmod_s (by rw [i5]; decide), e1, i5]
      have e2 : Int32.ofInt (((x : Int) - 1) % 5) = nI ((x + 4) % 5) := by
        rw [tE, tO (by omega) (by omega), nI_toInt (by omega)]
        omega
      rw [e2]
    obtain ⟨τ, e1, g1, g2⟩ := copy_X (σ := σ) (q := 1) (q1 := 87 + 42 * ((x + 4) % 5)) (by omega) (f3 _ hm) (RH_pres d1 d3)
    have hRn := CP_RH d1.1 g2 d3
    have hBn := CP_FB g2 (f3 _ hm)
    have e85 : τ 85 = σ 85 := g1 85 (by omega)
    have hle0 : ¬ σ 85 0 ≤ 0 := fun z => by
      rw [Int32.le_iff_toInt_le, z0T] at z
      omega
    generalize hT1 : wr (wr τ 85 1 (nI ((x + 4) % 5))) 85 0 (wr τ 85 1 (nI ((x + 4) % 5)) 85 0 - 1) = τ1 at *
    have y0 : τ1 85 0 = nI (n - 1) := by
      rw [← hT1, wr_h rfl rfl, wr_m (by omega), e85, es]
      exact pk_sub (b := 1) (by omega)
    have y1 : τ1 85 1 = nI ((x + 4) % 5) := by rw [← hT1, wr_m (by omega), wr_h rfl rfl]
    have yo : ∀ w, w ≠ 85 → τ1 w = τ w := fun w hw => by rw [← hT1, wr_other hw, wr_other hw]
    have yo2 : ∀ w, w ≠ 85 → (w < 1 ∨ 43 ≤ w) → τ1 w = σ w := fun w hw h2 => by rw [yo w hw, g1 w (by omega)]
    have hcx : f_X_undo 0 σ = some (nI (n - 1), τ1) := by
      unfold f_X_undo f_His_restore
      simp only [Nat.zero_add]
      rw [if_neg h, bd_eq m1, if_pos (ib_nI hm (by decide)), if_neg hle0, nI_clamp (by omega), show 85 + 1 + (1 + 42 * ((x + 4) % 5)) = 87 + 42 * ((x + 4) % 5) by omega, bd_eq e1, lt_eq, lt_eq, hT1, bd_some, y0]
    -- the reference
    generalize hT2 : wr (wr τ1 299 0 0) 299 3 (wr τ1 299 0 0 299 3 - 1) = τ2
    have z3 : τ2 299 3 = nI (n - 1) := by
      rw [← hT2, wr_h rfl rfl, wr_m (by decide), yo2 299 (by decide) (by omega), b3, es]
      exact pk_sub (b := 1) (by omega)
    have zo : ∀ w, w ≠ 299 → τ2 w = τ1 w := fun w hw => by rw [← hT2, wr_other hw, wr_other hw]
    have z5 : τ2 299 5 = σ 299 5 := by rw [← hT2, wr_m (by decide), wr_m (by decide), yo2 299 (by decide) (by omega)]
    have hcm : f_M_undo 299 τ1 = some (nI (n - 1), wrow τ2 300 (hoR (fun p => τ2 301 (481 * (n - 1) + p)) (τ2 300))) := by
      unfold f_M_undo
      rw [lt_eq, show wr τ1 299 0 0 299 3 = σ 85 0 by rw [wr_m (by decide), yo2 299 (by decide) (by omega), b3], if_neg h, lt_eq]
      rw [show wr τ1 299 0 0 299 3 = σ 85 0 by rw [wr_m (by decide), yo2 299 (by decide) (by omega), b3]] at hT2
      rw [hT2, undo_a (N := n - 1) (by omega) z3, wrow_m (by decide), z3]
    refine ⟨_, τ1, _, hcx, hcm, ?_⟩
    have s301 : τ2 301 = σ 301 := by rw [zo 301 (by decide), yo2 301 (by decide) (by omega)]
    generalize hT3 : wrow τ2 300 (hoR (fun p => τ2 301 (481 * (n - 1) + p)) (τ2 300)) = τ3
    have v300 : ∀ k, k < 481 → τ3 300 k = (fun k => σ 301 (481 * (n - 1) + k)) k := fun k hk => by
      rw [← hT3, wrow_h]
      show (if k < 481 then τ2 301 (481 * (n - 1) + k) else τ2 300 k) = _
      rw [if_pos hk, s301]
    have vo : ∀ w, w ≠ 300 → w ≠ 299 → τ3 w = τ1 w := fun w h1 h2 => by rw [← hT3, wrow_m h1, zo w h2]
    have v3 : τ3 299 3 = nI (n - 1) := by rw [← hT3, wrow_m (by decide), z3]
    have v5 : τ3 299 5 = σ 299 5 := by rw [← hT3, wrow_m (by decide), z5]
    have v301 : τ3 301 = σ 301 := by rw [vo 301 (by decide) (by decide), yo2 301 (by decide) (by omega)]
    have v85 : τ3 85 = τ1 85 := vo 85 (by decide) (by decide)
    have v297 : τ3 297 = σ 297 := by rw [vo 297 (by decide) (by decide), yo2 297 (by decide) (by omega)]
    have v298 : τ3 298 = σ 298 := by rw [vo 298 (by decide) (by decide), yo2 298 (by decide) (by omega)]
    have v302 : τ3 302 = σ 302 := by rw [vo 302 (by decide) (by decide), yo2 302 (by decide) (by omega)]
    refine ⟨⟨WF_congS v300 d1, ?_, ?_⟩, ⟨?_, ?_, ?_, fun j hj => ?_⟩, ?_, ?_, ?_, fun r hr => ?_⟩
    · have := v300 0 (by decide)
      unfold gI
      rw [this]
      exact d2
    · exact RH_congS v300 d1 (RH_cong (nS_le d1.1) (fun w h1 h2 => by rw [vo w (by omega) (by omega), yo w (by omega)]) hRn)
    · rw [v85, y0, nI_toInt (by omega)]; omega
    · rw [v85, y1, nI_toInt (by omega)]; omega
    · rw [v85, y0, v3]
    · rw [v85, y0, nI_toInt (by omega)] at hj
      rw [v85, y0, y1, v301, nI_toInt (by omega), nI_toInt (by omega), show ((n - 1 : Nat) : Int).toNat = n - 1 from rfl, show (((x + 4) % 5 : Nat) : Int).toNat = (x + 4) % 5 from rfl]
      obtain ⟨k1, k2, k3⟩ := hh (j + 1) (by omega)
      rw [show n - 1 - (j + 1) = n - 1 - 1 - j by omega, show (x + 4 - (j + 1)) % 5 = ((x + 4) % 5 + 4 - j) % 5 by omega] at *
      have hm2 : ((x + 4) % 5 + 4 - j) % 5 < 5 := Nat.mod_lt _ (by decide)
      exact ⟨k1, k2, RH_cong (nS_le k1.1) (fun w h1 h2 => by rw [vo w (by omega) (by omega), yo2 w (by omega) (by omega)]) k3⟩
    · rw [v297, v298, v302, v5]
      exact ⟨c1, c2, c3⟩
    · exact FBq_cong (fun w h1 h2 => by rw [vo w (by omega) (by omega), yo w (by omega)]) hBn
    · exact FBq_cong (fun w h1 h2 => by rw [vo w (by omega) (by omega), yo2 w (by omega) (by omega)]) f2
    · exact FBq_cong (fun w h1 h2 => by rw [vo w (by omega) (by omega), yo2 w (by omega) (by omega)]) (f3 r hr)
