/-! subscribe: both sides -/
def gC (a b c : Int32) : Nat → Int32
  | 0 => 1
  | 1 => a
  | 2 => b
  | 3 => c
  | _ => 0
theorem gC_0 {a b c : Int32} {k : Nat} (h : 4 ≤ k) : gC a b c k = 0 := by
  obtain ⟨k, rfl⟩ : ∃ z, k = z + 4 := ⟨k - 4, by omega⟩
  rfl
def subS (T : Nat → Int32) (j : Nat) (a b c : Int32) : Nat → Int32 := fun p => if 163 + 27 * j ≤ p ∧ p < 190 + 27 * j then gC a b c (p - (163 + 27 * j)) else T p
theorem sub_m {T : Nat → Int32} {j p : Nat} {a b c : Int32} (h : p < 163 + 27 * j ∨ 190 + 27 * j ≤ p) : subS T j a b c p = T p := if_neg (by omega)
theorem sub_g {T : Nat → Int32} {j p : Nat} {a b c : Int32} (k : Nat) (hk : k < 27) (hp : p = 163 + 27 * j + k) : subS T j a b c p = gC a b c k := by
  unfold subS
  rw [if_pos (by omega)]
  exact congrArg (gC a b c) (by omega)
theorem sub_lp {τ : Mem} {y1 y2 y3 y4 : Int32} {K : Mem → Option (Int32 × Mem)} {a : Nat} (ha : a + 27 ≤ 481) : L_M_subscribe_93 299 y1 y2 y3 y4 (nI a) K FU (0 : Int32) τ = K (wrow τ 300 (fun p => if a ≤ p ∧ p < a + 27 then 0 else τ 300 p)) := by
  obtain ⟨σ', e, rfl⟩ := loopR (L_M_subscribe_93 299 y1 y2 y3 y4 (nI a) K) K 27 (fun i σ => σ = wrow τ 300 (fun p => if a ≤ p ∧ p < a + i then 0 else τ 300 p))
    (fun n σ _ => by show (if (27 : Int32) ≤ nI 27 then _ else _) = _; rw [if_pos (by decide)])
    (fun n i σ hi hI => by
      subst hI
      refine ⟨_, ?_, rfl⟩
      show (if (27 : Int32) ≤ nI i then _ else _) = _
      rw [if_neg (show ¬ (27 : Int32) ≤ nI i from nI_ge hi (by decide)), nI_add, if_pos (ib_nI (by omega) (by decide)), lt_eq, nI_clamp (by omega), ← nI_succ]
      simp only [Nat.reduceAdd]
      rw [wr_row, wrow_h, wrow_2]
      refine congrArg (fun f => L_M_subscribe_93 299 y1 y2 y3 y4 (nI a) K n (nI (i + 1)) (wrow τ 300 f)) ?_
      funext p
      by_cases e : p = a + i
      · rw [upS_h e, if_pos (by omega)]
      · rw [upS_m e]
        by_cases h : a ≤ p ∧ p < a + i
        · rw [if_pos h, if_pos (by omega)]
        · rw [if_neg h, if_neg (by omega)]) 27 0 FU τ rfl (by decide) (by
      show τ = wrow τ 300 (fun p => if a ≤ p ∧ p < a + 0 then 0 else τ 300 p)
      have : (fun p => if a ≤ p ∧ p < a + 0 then 0 else τ 300 p) = τ 300 := by
        funext p
        rw [if_neg (by omega)]
      rw [this, wrow_id])
  exact e
/-- the reference's new client -/
theorem newc_M {τ : Mem} {j : Nat} {y4 a b c : Int32} {K : Mem → Option (Int32 × Mem)} (hj : j < 8) : (L_M_subscribe_93 299 a b c y4 (nI (163 + 27 * j)) (fun σ20 =>
              if ib (nI (163 + 27 * j) + (0 : Int32)) 481 then
                lt (wr σ20 300 (nI (163 + 27 * j) + (0 : Int32)).toNatClampNeg (1 : Int32)) fun σ21 =>
                if ib (nI (163 + 27 * j) + (1 : Int32)) 481 then
                  lt (wr σ21 300 (nI (163 + 27 * j) + (1 : Int32)).toNatClampNeg a) fun σ22 =>
                  if ib (nI (163 + 27 * j) + (2 : Int32)) 481 then
                    lt (wr σ22 300 (nI (163 + 27 * j) + (2 : Int32)).toNatClampNeg b) fun σ23 =>
                    if ib (nI (163 + 27 * j) + (3 : Int32)) 481 then
                      lt (wr σ23 300 (nI (163 + 27 * j) + (3 : Int32)).toNatClampNeg c) fun σ24 => K σ24
                    else none
                  else none
                else none
              else none) FU (0 : Int32) τ) = K (wrow τ 300 (subS (τ 300) j a b c)) := by
  rw [sub_lp (by omega)]
  have q0 : nI (163 + 27 * j) + 0 = nI (163 + 27 * j) := Int32.add_zero _
  have q1 : nI (163 + 27 * j) + 1 = nI (164 + 27 * j) := by rw [← nI_succ]; exact congrArg nI (by omega)
  have q2 : nI (163 + 27 * j) + 2 = nI (165 + 27 * j) := by rw [nI_aL]; exact congrArg nI (by omega)
  have q3 : nI (163 + 27 * j) + 3 = nI (166 + 27 * j) := by rw [nI_aL]; exact congrArg nI (by omega)
  have hib : ∀ k, 163 ≤ k → k < 167 → ib (nI (k + 27 * j)) 481 := fun k h1 hk => ib_nI (by omega) (by decide)
  have hcl : ∀ k, k < 167 → (nI (k + 27 * j)).toNatClampNeg = k + 27 * j := fun k hk => nI_clamp (by omega)
  rw [q0, q1, q2, q3, if_pos (hib 163 (by decide) (by decide)), lt_eq, if_pos (hib 164 (by decide) (by decide)), lt_eq, if_pos (hib 165 (by decide) (by decide)), lt_eq, if_pos (hib 166 (by decide) (by decide)), lt_eq, hcl 163 (by decide), hcl 164 (by decide), hcl 165 (by decide), hcl 166 (by decide)]
  simp only [wr_row, wrow_h, wrow_2]
  refine congrArg (fun f => K (wrow τ 300 f)) ?_
  funext p
  by_cases hr : 163 + 27 * j ≤ p ∧ p < 163 + 27 * j + 27
  · obtain ⟨k, rfl⟩ : ∃ k, p = 163 + 27 * j + k := ⟨p - (163 + 27 * j), by omega⟩
    rw [sub_g k (by omega) rfl]
    rcases (by omega : k = 0 ∨ k = 1 ∨ k = 2 ∨ k = 3 ∨ 4 ≤ k) with rfl | rfl | rfl | rfl | hk
    · rw [upS_m (by omega), upS_m (by omega), upS_m (by omega), upS_h (by omega)]; rfl
    · rw [upS_m (by omega), upS_m (by omega), upS_h (by omega)]; rfl
    · rw [upS_m (by omega), upS_h (by omega)]; rfl
    · rw [upS_h (by omega)]; rfl
    · rw [upS_m (by omega), upS_m (by omega), upS_m (by omega), upS_m (by omega), if_pos hr, gC_0 hk]
  · rw [upS_m (by omega), upS_m (by omega), upS_m (by omega), upS_m (by omega), if_neg hr, sub_m (by omega)]
theorem s_subscribe (a1 a2 a3 : Int32) : Same (f_X_subscribe 0 a1 a2 a3) (f_M_subscribe 299 a1 a2 a3) := by
  intro σ hI
  obtain ⟨hW, hle, hR⟩ := hI.1
  have h0 := hW.1.1
  have h8 := nS_le hW.1
  have i400 : (400 : Int32).toInt = 400 := by decide
  have h1b := hW.1.2.2.1
  have hg1 : gI (σ 300) 1 = nS (σ 300) := by unfold nS; unfold gI at h1b ⊢; omega
  have hx1 := sensorAt_c (p := a1) hW.1 hR.1
  have hmS := fun (τ : Mem) (hτ : τ 300 = σ 300) => by
    have := isSensor_s (τ := wr τ 299 0 0) (p := a1) (by rw [wr_other (by decide), hτ]; exact h1b)
    rw [wr_other (show (300 : Nat) ≠ 299 by decide), hτ] at this
    exact this
  by_cases hp : 0 ≤ a1.toInt ∧ a1.toInt < gI (σ 300) 1
  rotate_left
  · rw [if_neg hp] at hx1
    have hm1 := hmS σ rfl
    rw [if_neg hp] at hm1
    exact look hI (-1) (by unfold f_X_subscribe; rw [bd_eq hx1, oe_none]) (by unfold f_M_subscribe; rw [lt_eq, bd_eq hm1, if_pos rfl])
  simp only [if_pos hp] at hx1 hmS
  by_cases h2 : (1 : Int32) ≤ a2 ∧ a2 ≤ 400
  rotate_left
  · exact look hI (-1) (by unfold f_X_subscribe; rw [bd_eq hx1, oe_some, isW, bd_some, if_neg h2, if_pos rfl]) (by unfold f_M_subscribe; rw [lt_eq, bd_eq (hmS σ rfl), if_neg i1n, isIn, bd_some, if_neg h2, if_pos rfl])
  by_cases h3 : (0 : Int32) ≤ a3 ∧ a3 ≤ 400
  rotate_left
  · exact look hI (-1) (by unfold f_X_subscribe; rw [bd_eq hx1, oe_some, isW, bd_some, if_pos h2, if_neg i1n, isW, bd_some, if_neg h3, if_pos rfl]) (by unfold f_M_subscribe; rw [lt_eq, bd_eq (hmS σ rfl), if_neg i1n, isIn, bd_some, if_pos h2, if_neg i1n, isIn, bd_some, if_neg h3, if_pos rfl])
  have k2 := inR.mp h2
  have k3 := inR.mp h3
  rw [i1T, i400] at k2
  rw [z0T, i400] at k3
  have e1 : a1 = nI a1.toInt.toNat := toNI hp.1
  have hi : a1.toInt.toNat < nS (σ 300) := by omega
  obtain ⟨hRP, _, _⟩ := hR.2.2.2.1 _ hi
  have hlst := hRP.2.2.2.2
  have hcan := fun (τ : Mem) (hτ : τ 300 = σ 300) => by
    have := can_M (τ := wr τ 299 0 0) (i := a1.toInt.toNat) (p := a2) (S := σ 300) (by rw [wr_other (by decide), hτ]) (CW_of hW) hi
    rw [← e1] at this
    exact this
  have hcx : (σ (1 + 2 + (8 + 2 * a1.toInt.toNat)) 1 ≤ a2) ↔ lst (σ 300) a1.toInt.toNat ≤ a2.toInt := by
    rw [Int32.le_iff_toInt_le, hlst]
  by_cases h4 : lst (σ 300) a1.toInt.toNat ≤ a2.toInt
  rotate_left
  · obtain ⟨F, hF⟩ := hcan σ rfl
    rw [if_neg h4] at hF
    refine ⟨-2, σ, wrow (wr σ 299 0 0) 307 F, ?_, ?_, ?_⟩
    · unfold f_X_subscribe
      rw [bd_eq hx1, oe_some, isW, bd_some, if_pos h2, if_neg i1n, isW, bd_some, if_pos h3, if_neg i1n, if_neg (fun z => h4 (hcx.mp z))]
    · unfold f_M_subscribe
      rw [lt_eq, bd_eq (hmS σ rfl), if_neg i1n, isIn, bd_some, if_pos h2, if_neg i1n, isIn, bd_some, if_pos h3, if_neg i1n, bd_eq hF, if_pos rfl]
    · exact inv_kp (fun w h1 h2 => by rw [wrow_m (by omega), wr_other h2]) (by rw [wrow_m (by decide), wr_m (by decide)]) (by rw [wrow_m (by decide), wr_m (by decide)]) hI
  have hfx : f_Hub_freeClientNumber 1 σ = some (frS (σ 300) 8 0, σ) := fr_X (fun j hj => (hR.2.2.2.2 j hj).1.1) 8 0 FU rfl (by decide)
  have hfm : ∀ τ : Mem, τ 300 = σ 300 → f_M_freeClient 299 τ = some (frS (σ 300) 8 0, τ) := fun τ hτ => by
    rw [← hτ]
    exact fr_M 8 0 FU rfl (by decide)
  rcases fr_in (S := σ 300) 8 0 (by decide) with hfr | ⟨j, hj, hfr, hfree⟩
  · obtain ⟨F, hF⟩ := hcan σ rfl
    rw [if_pos h4] at hF
    refine ⟨-3, σ, wrow (wr σ 299 0 0) 307 F, ?_, ?_, ?_⟩
    · unfold f_X_subscribe
      rw [bd_eq hx1, oe_some, isW, bd_some, if_pos h2, if_neg i1n, isW, bd_some, if_pos h3, if_neg i1n, if_pos (hcx.mpr h4)]
      simp only [Nat.zero_add]
      rw [bd_eq hfx, if_pos hfr]
    · unfold f_M_subscribe
      rw [lt_eq, bd_eq (hmS σ rfl), if_neg i1n, isIn, bd_some, if_pos h2, if_neg i1n, isIn, bd_some, if_pos h3, if_neg i1n, bd_eq hF, if_neg i1n, bd_eq (hfm _ (by rw [wrow_m (by decide), thr300])), if_pos hfr]
    · exact inv_kp (fun w h1 h2 => by rw [wrow_m (by omega), wr_other h2]) (by rw [wrow_m (by decide), wr_m (by decide)]) (by rw [wrow_m (by decide), wr_m (by decide)]) hI
  have hj9 : ¬ nI j = -9 := fun e => by
    have := congrArg Int32.toInt e
    rw [nI_toInt (by omega), m9T] at this
    omega
  obtain ⟨w1, w2⟩ := WF_wake (c := 2) hW hle (by decide)
  have wcf := wake_cfE hW (c := 2) (by decide)
  have w3 : gI (wakeS (σ 300) 2) 3 = 0 := wake_3
  have hnw := cfE_n wcf
  have hlw : lst (wakeS (σ 300) 2) a1.toInt.toNat = lst (σ 300) a1.toInt.toNat := lst_c wcf (CW_of hW) hi
  generalize hSw : wakeS (σ 300) 2 = Sw at *
  have hag : ∀ p, (p < 163 + 27 * j ∨ 190 + 27 * j ≤ p) → subS Sw j a1 a2 a3 p = Sw p := fun p h => sub_m h
  have sg : ∀ k p, k < 27 → p = 163 + 27 * j + k → subS Sw j a1 a2 a3 p = gC a1 a2 a3 k := fun k p hk hp => sub_g k hk hp
  have hgw1 : gI Sw 1 = nS Sw := by have := w1.1.2.2.1; unfold nS; unfold gI at this ⊢; omega
  have hwc : WC (subS Sw j a1 a2 a3) j (gI Sw 0) (8 * gI Sw 0) := by
    right
    have hG := w1.1
    unfold WG at hG
    have g3 : gI (subS Sw j a1 a2 a3) 3 = 0 := by rw [← w3]; exact congrArg Int32.toInt (hag 3 (by omega))
    have g1 : gI (subS Sw j a1 a2 a3) 1 = gI Sw 1 := congrArg Int32.toInt (hag 1 (by omega))
    rw [g3, g1]
    unfold gI
    rw [sg 0 (163 + 27 * j) (by decide) rfl, sg 1 (164 + 27 * j) (by decide) (by omega), sg 2 (165 + 27 * j) (by decide) (by omega), sg 3 (166 + 27 * j) (by decide) (by omega), sg 4 (167 + 27 * j) (by decide) (by omega), sg 5 (168 + 27 * j) (by decide) (by omega), sg 7 (170 + 27 * j) (by decide) (by omega)]
    have hl : lst (subS Sw j a1 a2 a3) a1.toInt.toNat = lst Sw a1.toInt.toNat := lst_cl (CW_of w1) (fun p _ _ => hag p (by omega)) (by rw [hnw]; exact hi)
    unfold gI at hgw1 hG
    refine ⟨rfl, ⟨hp.1, ?_⟩, k2, k3, ?_, ?_, ?_, ?_⟩
    · show a1.toInt < (Sw 1).toInt
      omega
    · show 0 ≤ (0 : Int32).toInt ∧ (0 : Int32).toInt ≤ (Sw 0).toInt
      rw [z0T]; omega
    · show 0 ≤ (0 : Int32).toInt ∧ (0 : Int32).toInt + 0 ≤ 8 * (Sw 0).toInt
      rw [z0T]; omega
    · show 0 ≤ (0 : Int32).toInt ∧ ((0 : Int32) = 0 → (0 : Int32) = 0)
      rw [z0T]; exact ⟨by omega, fun _ => rfl⟩
    · show lst (subS Sw j a1 a2 a3) a1.toInt.toNat ≤ a2.toInt
      rw [hl, hlw]; exact h4
  have hWc : WX (subS Sw j a1 a2 a3) (fun _ => gI Sw 0) (fun _ => gI Sw 0) (8 * gI Sw 0) := cli_W w1 hj w3 hag hwc
  have gc0 : gI (subS Sw j a1 a2 a3) 0 = gI Sw 0 := congrArg Int32.toInt (hag 0 (by omega))
  have hWF : WF (subS Sw j a1 a2 a3) := by unfold WF; rw [gc0]; exact hWc
  obtain ⟨hs1, hs2⟩ := WF_stl (O := pd Sw) hWF
  have hn : nS (subS Sw j a1 a2 a3) = nS Sw := by unfold nS; rw [hag 1 (by omega)]
  refine act2 (fx' := fun σ11 => bd (f_Hub_wake 1 2 σ11) fun r12 σ13 => bd (f_Hub_putClient 1 (nI j) a1 a2 a3 σ13) fun _ σ15 => some (nI j, σ15)) (fm' := fun σ13 => bd (f_M_wake 299 (2 : Int32) σ13) fun r14 σ15 => bd (f_M_keepPeriods 299 σ15) fun _ σ17 => lt ((163 : Int32) + ((27 : Int32) * nI j)) fun v18 => L_M_subscribe_93 299 a1 a2 a3 (nI j) v18 (fun σ20 => if ib (v18 + (0 : Int32)) 481 then lt (wr σ20 300 (v18 + (0 : Int32)).toNatClampNeg (1 : Int32)) fun σ21 => if ib (v18 + (1 : Int32)) 481 then lt (wr σ21 300 (v18 + (1 : Int32)).toNatClampNeg a1) fun σ22 => if ib (v18 + (2 : Int32)) 481 then lt (wr σ22 300 (v18 + (2 : Int32)).toNatClampNeg a2) fun σ23 => if ib (v18 + (3 : Int32)) 481 then lt (wr σ23 300 (v18 + (3 : Int32)).toNatClampNeg a3) fun σ24 => bd (f_M_restartIfChanged 299 σ24) fun _ σ26 => some (nI j, σ26) else none else none else none else none) FU (0 : Int32) σ17) hI (nI j) (stl (subS Sw j a1 a2 a3) (pd Sw)) hs1 (by rw [hs2, gc0, w2]; exact hle) ?_ (fun σ1 hR1 hB1 => ?_) (fun τ hτ => ?_) (fun τ hτ => ?_)
  · unfold f_X_subscribe
    rw [bd_eq hx1, oe_some, isW, bd_some, if_pos h2, if_neg i1n, isW, bd_some, if_pos h3, if_neg i1n, if_pos (hcx.mpr h4)]
    simp only [Nat.zero_add]
    rw [bd_eq hfx, hfr, if_neg hj9]
  · obtain ⟨σ2, e2, r2, kk2, kk3⟩ := wake_X (c := 2) (by decide) hW (by omega) hR1
    rw [hSw] at r2
    generalize hτb : wr (wr (wr (wr (wr (wr (wr (wr (wr (wr σ2 (1 + 3 + (23 + 2 * j)) 1 a1) (1 + 3 + (23 + 2 * j)) 2 a2) (1 + 3 + (23 + 2 * j)) 3 a3) (1 + 3 + (23 + 2 * j)) 0 1) (1 + 3 + (23 + 2 * j)) 4 0) (1 + 3 + (23 + 2 * j)) 5 0) (1 + 3 + (23 + 2 * j)) 6 0) (1 + 3 + (23 + 2 * j)) 7 0) (1 + 3 + (23 + 2 * j)) 8 (-9)) (1 + 3 + (23 + 2 * j)) 9 0 = τb
    have hbeg : f_Cli_begin (1 + 3 + (23 + 2 * j)) a1 a2 a3 σ2 = some ((), τb) := by
      unfold f_Cli_begin
      simp only [lt_eq]
      rw [hτb]
    have ob : ∀ w, w ≠ 1 + 3 + (23 + 2 * j) → τb w = σ2 w := fun w hw => by
      rw [← hτb]
      simp (disch := omega) only [wr_other]
    have f0 : τb (1 + 3 + (23 + 2 * j)) 0 = 1 := by rw [← hτb]; simp [wr]
    have f1 : τb (1 + 3 + (23 + 2 * j)) 1 = a1 := by rw [← hτb]; simp [wr]
    have f2 : τb (1 + 3 + (23 + 2 * j)) 2 = a2 := by rw [← hτb]; simp [wr]
    have f3 : τb (1 + 3 + (23 + 2 * j)) 3 = a3 := by rw [← hτb]; simp [wr]
    have f5 : τb (1 + 3 + (23 + 2 * j)) 5 = 0 := by rw [← hτb]; simp [wr]
    have f6 : τb (1 + 3 + (23 + 2 * j)) 6 = 0 := by rw [← hτb]; simp [wr]
    have f7 : τb (1 + 3 + (23 + 2 * j)) 7 = 0 := by rw [← hτb]; simp [wr]
    have f8 : τb (1 + 3 + (23 + 2 * j)) 8 = -9 := by rw [← hτb]; simp [wr]
    have f9 : τb (1 + 3 + (23 + 2 * j)) 9 = 0 := by rw [← hτb]; simp [wr]
    clear hτb
    have hR0 : R0 τb 1 (subS Sw j a1 a2 a3) := cli_R0 w1 hj hag r2 (fun w h1 h2 => ob w h1) (by
      unfold RC gI
      rw [f0, f1, f2, f3, f5, f6, f7, f8, f9, sg 0 (163 + 27 * j) (by decide) rfl, sg 1 (164 + 27 * j) (by decide) (by omega), sg 2 (165 + 27 * j) (by decide) (by omega), sg 3 (166 + 27 * j) (by decide) (by omega), sg 4 (167 + 27 * j) (by decide) (by omega), sg 5 (168 + 27 * j) (by decide) (by omega), sg 6 (169 + 27 * j) (by decide) (by omega), sg 8 (171 + 27 * j) (by decide) (by omega)]
      exact ⟨rfl, fun _ => ⟨⟨rfl, rfl, rfl, rfl, rfl, rfl, rfl, rfl⟩, fun d p _ hd _ => by
        have hd : (d : Int) < (0 : Int32).toInt := hd
        rw [z0T] at hd
        omega⟩⟩)
    obtain ⟨σ3, e3, r3, fr3, b3, p3⟩ := settle_X (O := pd Sw) hWc (fun _ => by omega) (fun _ => by omega) hR0 (fun k hk => by
      rw [hn] at hk
      rw [ob _ (by have := nS_le w1.1; omega)]
      exact (r2.2.2.2.1 k hk).2.2.2)
    refine ⟨σ3, ?_, r3, b3 ?_, fun w hw => ?_⟩
    · show bd (f_Hub_wake 1 (nI 2) σ1) _ = _
      rw [bd_eq e2]
      unfold f_Hub_putClient
      rw [bd_eq (clientRoom_nI hj), oe_some, bd_eq hbeg, bd_eq e3, bd_some]
    · intro i hi
      rw [ob _ (by omega)]
      exact FBq_wake kk2 hB1 i hi
    · rw [fr3 w (by omega), ob w (by omega)]
      exact kk2 w (by omega)
  · have t0 : τ 300 = σ 300 := hτ 300 (by decide)
    obtain ⟨F, hF⟩ := hcan τ t0
    rw [if_pos h4] at hF
    refine ⟨wrow (wr τ 299 0 0) 307 F, fun w hw => wrow_m hw, ?_⟩
    unfold f_M_subscribe
    rw [lt_eq, bd_eq (hmS τ t0), if_neg i1n, isIn, bd_some, if_pos h2, if_neg i1n, isIn, bd_some, if_pos h3, if_neg i1n, bd_eq hF, if_neg i1n, bd_eq (hfm _ (by rw [wrow_m (by decide), wr_other (by decide), t0])), hfr, if_neg hj9]
  · have hwk := wake_Mr (τ := τ) (S := σ 300) (c := 2) (hτ 300 (by decide) (by decide) (by decide)) hW (by decide)
    rw [hSw] at hwk
    obtain ⟨D, P, O, ek, hO⟩ := keepP_M (τ := wrow τ 300 Sw) (by rw [wrow_h]; exact CW_of w1) (by rw [wrow_h]; exact w1.1.2.2.1.1)
    rw [wrow_h] at hO
    generalize hτ1 : wrow (wrow (wrow (wrow τ 300 Sw) 304 D) 305 P) 306 O = τ1 at *
    have u300 : τ1 300 = Sw := by rw [← hτ1, wrow_m (by decide), wrow_m (by decide), wrow_m (by decide), wrow_h]
    have u306 : τ1 306 = O := by rw [← hτ1, wrow_h]
    have ulo : ∀ w, w < 303 → w ≠ 300 → τ1 w = τ w := fun w h1 h2 => by rw [← hτ1, wrow_m (by omega), wrow_m (by omega), wrow_m (by omega), wrow_m h2]
    have e9 : (163 : Int32) + 27 * nI j = nI (163 + 27 * j) := by rw [nI_Lm, nI_La]
    have hnc := newc_M (τ := τ1) (j := j) (y4 := nI j) (a := a1) (b := a2) (c := a3) (K := fun σ24 => bd (f_M_restartIfChanged 299 σ24) fun _ σ26 => some (nI j, σ26)) hj
    rw [u300] at hnc
    obtain ⟨D2, P2, er⟩ := ric_M (τ := wrow τ1 300 (subS Sw j a1 a2 a3)) (S := subS Sw j a1 a2 a3) (O := pd Sw) wrow_h hWc (fun k hk => by
      rw [hn] at hk
      rw [wrow_m (by decide), u306]
      exact hO k hk)
    refine ⟨wrow (wrow (wrow (wrow τ1 300 (subS Sw j a1 a2 a3)) 304 D2) 305 P2) 300 (stl (subS Sw j a1 a2 a3) (pd Sw)), ?_, wrow_h, fun w h1 h2 => ?_⟩
    · show bd (f_M_wake 299 (nI 2) τ) _ = _
      rw [bd_eq hwk, bd_eq ek, lt_eq, e9]
      refine hnc.trans ?_
      rw [bd_eq er]
    · rw [wrow_m h2, wrow_m (by omega), wrow_m (by omega), wrow_m h2, ulo w h1 h2]
