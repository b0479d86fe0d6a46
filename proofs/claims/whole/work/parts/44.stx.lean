/-! the clients' entries of a tick: the class -/
theorem pas_RH {σ : Mem} {q j : Nat} {S : Nat → Int32} {tS tC : Nat → Int} {b : Int} (hW : WX S tS tC b) (hj : j < 8) (h1 : S (163 + 27 * j) = 1) (hR : RH σ q S) : RH (wr σ (q + 3 + (23 + 2 * j)) 5 (σ (q + 3 + (23 + 2 * j)) 5 + 1)) q (pasS S j) := by
  have h8 := nS_le hW.1
  have h2b := hW.1.2.2.2.1
  have h3b := hW.1.2.2.2.2.1
  have hm : ∀ p, p ≠ 167 + 27 * j → pasS S j p = S p := fun p hp => upS_m hp
  have hcf : cfE S (pasS S j) := fun p hp => hm p (by rcases hp with h | h | h <;> omega)
  have ho : ∀ w, w ≠ q + 3 + (23 + 2 * j) → wr σ (q + 3 + (23 + 2 * j)) 5 (σ (q + 3 + (23 + 2 * j)) 5 + 1) w = σ w := fun w hw => wr_other hw
  have hRS := (RH_iff.mp hR).1
  obtain ⟨hRG, hRO, hRE, hRRS, hRCS⟩ := hR
  refine RH_iff.mpr ⟨RS_keep hcf (CW_of hW) ⟨fun i k hi hk => by rw [ho _ (by omega)], fun i k hi hk => wr_m (by omega)⟩ (WX_cl hW) hRS, ?_, ?_, ?_, ?_, ?_⟩
  · unfold RG at hRG ⊢
    rw [ho q (by omega), ho (q + 1) (by omega), hm 0 (by omega), hm 6 (by omega), hm 5 (by omega), hm 4 (by omega), hm 1 (by omega)]
    refine ⟨hRG.1, hRG.2.1, hRG.2.2.1, hRG.2.2.2.1, hRG.2.2.2.2.1, fun c hc => ?_⟩
    rw [hm (7 + c) (by omega)]
    exact hRG.2.2.2.2.2 c hc
  · unfold RO gI at hRO ⊢
    unfold gI at h2b
    rw [ho (q + 4) (by omega), ho (q + 4 + 1) (by omega), ho (q + 4 + 2) (by omega), ho (q + 4 + 3) (by omega), hm 2 (by omega)]
    refine ⟨hRO.1, fun o ho2 => ?_⟩
    rw [hm (379 + 3 * o) (by omega), hm (380 + 3 * o) (by omega), hm (381 + 3 * o) (by omega)]
    exact hRO.2 o ho2
  · unfold RE gI at hRE ⊢
    rw [ho (q + 8) (by omega), ho (q + 8 + 1) (by omega), hm 3 (by omega)]
    refine ⟨hRE.1, fun e p he hp => ?_⟩
    rw [hm (391 + 3 * e + p) (by omega)]
    exact hRE.2 e p he hp
  · intro i hi
    rw [cfE_n hcf] at hi
    rw [ho _ (by omega), ho _ (by omega)]
    exact RR_cong (fun p _ _ => hm p (by omega)) (hRRS i hi).2.1
  · intro k hk
    by_cases e : k = j
    · subst e
      have hc := (hRCS k hk).1
      rw [ho (q + 3 + (23 + 2 * k) + 1) (by omega)]
      obtain ⟨a0, hr⟩ := hc
      obtain ⟨⟨a1, a2, a3, a5, a6, a7, a9, a8⟩, al⟩ := hr h1
      unfold RC
      unfold gI at al ⊢
      rw [hm (163 + 27 * k) (by omega), hm (164 + 27 * k) (by omega), hm (165 + 27 * k) (by omega), hm (166 + 27 * k) (by omega), hm (168 + 27 * k) (by omega), hm (169 + 27 * k) (by omega), hm (170 + 27 * k) (by omega), hm (171 + 27 * k) (by omega), show pasS S k (167 + 27 * k) = S (167 + 27 * k) + 1 from upS_h rfl]
      refine ⟨by rw [wr_m (by omega)]; exact a0, fun _ => ⟨⟨?_, ?_, ?_, ?_, ?_, ?_, ?_, ?_⟩, fun d p hd hdD hp => ?_⟩⟩
      · rw [wr_m (by omega)]; exact a1
      · rw [wr_m (by omega)]; exact a2
      · rw [wr_m (by omega)]; exact a3
      · rw [wr_h rfl rfl, a5]
      · rw [wr_m (by omega)]; exact a6
      · rw [wr_m (by omega)]; exact a7
      · rw [wr_m (by omega)]; exact a9
      · rw [wr_m (by omega)]; exact a8
      · rw [hm (172 + 27 * k + 3 * d + p) (by omega)]
        exact al d p hd hdD hp
    · rw [ho _ (by omega), ho _ (by omega)]
      exact RC_cong (fun p _ _ => hm p (by omega)) (hRCS k hk).1
theorem put_X {σ : Mem} {q j f : Nat} {S : Nat → Int32} {tS tC : Nat → Int} {b : Int} (hW : WX S tS tC b) (hj : j < 8) (h1 : S (163 + 27 * j) = 1) (hf : f < nS S) (h34 : gI S 3 < gI S 4) (hs : 0 < gI S (18 + 19 * f)) (hR : RH σ q S) : ∃ σ', (bd (f_Sto_add (q + 8) (nI j) (σ (q + 2 + (8 + 2 * f)) 14) (σ (q + 2 + (8 + 2 * f)) 15) σ) fun _ σ2 => bd (f_Mat_max (σ2 q 5) (σ2 (q + 8) 0) σ2) fun r3 σ4 => lt (wr σ4 q 5 r3) fun σ5 => some ((), σ5)) = some ((), σ') ∧ RH σ' q (addE S j f) ∧ σ' q 5 = (if σ q 5 < S 3 + 1 then S 3 + 1 else σ q 5) ∧ ∀ w, w ≠ q → w ≠ q + 8 → w ≠ q + 9 → σ' w = σ w := by
  have h8 := nS_le hW.1
  have h2b := hW.1.2.2.2.1
  have h3b := hW.1.2.2.2.2.1
  have h4b := hW.1.2.2.2.2.2.1
  have hn : (S 3).toInt.toNat < 30 := by unfold gI at h3b h34 h4b; omega
  have e3 : S 3 = nI (S 3).toInt.toNat := toNI h3b.1
  obtain ⟨w1, w2, w3⟩ := addE_W (f := f) hW hj h1 hf h34
  have hcf : cfE S (addE S j f) := fun p hp => w2 p (by rcases hp with h | h | h <;> omega) (by rcases hp with h | h | h <;> omega)
  have hRS := (RH_iff.mp hR).1
  obtain ⟨hRG, hRO, hRE, hRRS, hRCS⟩ := hR
  obtain ⟨r14, r15⟩ := (hRRS f hf).2.1.2.1 hs
  have es : σ (q + 8) 0 = nI (S 3).toInt.toNat := by rw [hRE.1]; exact e3
  have eq9 : q + 8 + 1 = q + 9 := rfl
  have z1 : ∀ x : Int32, x + (0 : Int32) = x := fun x => Int32.add_zero x
  have hadd : f_Sto_add (q + 8) (nI j) (σ (q + 2 + (8 + 2 * f)) 14) (σ (q + 2 + (8 + 2 * f)) 15) σ = some ((), wrow (wrow σ (q + 8 + 1) (upS (upS (upS (σ (q + 8 + 1)) (3 * (S 3).toInt.toNat) (nI j)) (3 * (S 3).toInt.toNat + 1) (S (19 + 19 * f))) (3 * (S 3).toInt.toNat + 2) (S (20 + 19 * f)))) (q + 8) (upS (σ (q + 8)) 0 (S 3 + 1))) := by
    rw [r14, r15]
    unfold f_Sto_add
    rw [isW, es, bd_some, if_pos (inR.mpr ⟨by rw [z0T, nI_toInt (by omega)]; omega, by rw [nI_toInt (by omega)]; show _ ≤ (29 : Int); omega⟩), if_neg (show ¬ (1 : Int32) = 0 by decide)]
    rw [e3]
    generalize (S 3).toInt.toNat = N at *
    have hNN : (nI N).toInt.toNat = N := by
      rw [nI_toInt (by omega)]
      rfl
    simp (disch := omega) only [↓lt_eq, hNN, z1, nI_mL, nI_aL, ib_T, nI_clamp, ↓reduceIte, wr_row, wrow_h, wrow_2, wrow_m, es, Nat.mul_comm N 3]
  rw [bd_eq hadd, bd_eq max_s, lt_eq]
  refine ⟨_, rfl, ?_, ?_, ?_⟩
  · have ho : ∀ (x : Int32) w, w ≠ q → w ≠ q + 8 → w ≠ q + 8 + 1 → wr (wrow (wrow σ (q + 8 + 1) (upS (upS (upS (σ (q + 8 + 1)) (3 * (S 3).toInt.toNat) (nI j)) (3 * (S 3).toInt.toNat + 1) (S (19 + 19 * f))) (3 * (S 3).toInt.toNat + 2) (S (20 + 19 * f)))) (q + 8) (upS (σ (q + 8)) 0 (S 3 + 1))) q 5 x w = σ w := fun x w a1 a2 a3 => by
      rw [wr_other a1, wrow_m a2, wrow_m a3]
    refine RH_iff.mpr ⟨RS_keep hcf (CW_of hW) ⟨fun i k hi hk => by rw [ho _ _ (by omega) (by omega) (by omega)], fun i k hi hk => by rw [ho _ _ (by omega) (by omega) (by omega)]⟩ (WX_cl hW) hRS, ?_, ?_, ?_, ?_, ?_⟩
    · unfold RG at hRG ⊢
      rw [ho _ (q + 1) (by omega) (by omega) (by omega), w2 0 (by omega) (by omega), w2 6 (by omega) (by omega), w2 5 (by omega) (by omega), w2 4 (by omega) (by omega), w2 1 (by omega) (by omega)]
      rw [wr_m (by omega), wr_m (by omega), wr_m (by omega), wr_m (by omega), wr_m (by omega), wrow_m (by omega), wrow_m (by omega)]
      refine ⟨hRG.1, hRG.2.1, hRG.2.2.1, hRG.2.2.2.1, hRG.2.2.2.2.1, fun c hc => ?_⟩
      rw [w2 (7 + c) (by omega) (by omega)]
      exact hRG.2.2.2.2.2 c hc
    · unfold RO gI at hRO ⊢
      unfold gI at h2b
      rw [ho _ (q + 4) (by omega) (by omega) (by omega), ho _ (q + 4 + 1) (by omega) (by omega) (by omega), ho _ (q + 4 + 2) (by omega) (by omega) (by omega), ho _ (q + 4 + 3) (by omega) (by omega) (by omega), w2 2 (by omega) (by omega)]
      refine ⟨hRO.1, fun o ho2 => ?_⟩
      rw [w2 (379 + 3 * o) (by omega) (by omega), w2 (380 + 3 * o) (by omega) (by omega), w2 (381 + 3 * o) (by omega) (by omega)]
      exact hRO.2 o ho2
    · refine ⟨?_, fun e p he hp => ?_⟩
      · rw [wr_other (by omega), wrow_h, upS_h rfl]
        exact (upS_h rfl).symm
      · rw [w3] at he
        rw [wr_other (by omega), wrow_m (by omega), wrow_h]
        unfold addE
        by_cases en : e = (S 3).toInt.toNat
        · subst en
          rcases (by omega : p = 0 ∨ p = 1 ∨ p = 2) with rfl | rfl | rfl
          · rw [upS_m (by omega), upS_m (by omega), upS_h (by omega), upS_m (by omega), upS_m (by omega), upS_m (by omega), upS_h (by omega)]
          · rw [upS_m (by omega), upS_h (by omega), upS_m (by omega), upS_m (by omega), upS_h (by omega)]
          · rw [upS_h (by omega), upS_m (by omega), upS_h (by omega)]
        · rw [upS_m (by omega), upS_m (by omega), upS_m (by omega), upS_m (by omega), upS_m (by omega), upS_m (by omega), upS_m (by omega)]
          exact hRE.2 e p (by unfold gI at he ⊢; unfold gI at h3b; omega) hp
    · intro i hi
      rw [cfE_n hcf] at hi
      rw [ho _ _ (by omega) (by omega) (by omega), ho _ _ (by omega) (by omega) (by omega)]
      exact RR_cong (fun p _ _ => w2 p (by omega) (by omega)) (hRRS i hi).2.1
    · intro k hk
      rw [ho _ _ (by omega) (by omega) (by omega), ho _ _ (by omega) (by omega) (by omega)]
      exact RC_cong (fun p _ _ => w2 p (by omega) (by omega)) (hRCS k hk).1
  · rw [wr_h rfl rfl, wrow_m (by omega), wrow_m (by omega), wrow_h, upS_h rfl]
  · intro w a1 a2 a3
    rw [wr_other a1, wrow_m a2, wrow_m (by omega)]
theorem storeE_X {σ : Mem} {q j f : Nat} {S : Nat → Int32} {tS tC : Nat → Int} {b : Int} (hW : WX S tS tC b) (hb : b ≤ 100000) (hj : j < 8) (h1 : S (163 + 27 * j) = 1) (hf : f < nS S) (hs : 0 < gI S (18 + 19 * f)) (hR : RH σ q S) : ∃ σ', f_Hub_storeEntry q (nI j) (q + 2 + (8 + 2 * f)) σ = some ((), σ') ∧ RH σ' q (addE (wkS S) j f) ∧ σ' q 5 = (if σ q 5 < wkS S 3 + 1 then wkS S 3 + 1 else σ q 5) ∧ ∀ w, (w < q ∨ q + 42 ≤ w ∨ (q + 10 ≤ w ∧ w < q + 26)) → σ' w = σ w := by
  have h8 := nS_le hW.1
  obtain ⟨w1, w2, w3, w4, w5⟩ := wkS_W hW hb
  have hn := cfE_n w2
  have h1' : wkS S (163 + 27 * j) = 1 := by rw [cf_c w2 (j := j) (k := 0) hj (by omega) (by omega)]; exact h1
  have hs' : 0 < gI (wkS S) (18 + 19 * f) := by
    unfold gI
    rw [w3 _ (by omega) (by omega) (by omega) (by omega)]
    exact hs
  unfold f_Hub_storeEntry
  rw [hR.2.2.1.1, hR.1.2.2.2.1]
  by_cases hc : S 3 < S 4
  · have ew : wkS S = S := if_pos hc
    rw [ew] at w1 w5 h1' hs' ⊢
    obtain ⟨σ', e, r1, r2, r3⟩ := put_X w1 hj h1' hf w5 hs' hR
    rw [if_pos hc]
    exact ⟨σ', e, r1, r2, fun w hw => r3 w (by omega) (by omega) (by omega)⟩
  · have ew : wkS S = wakeS S 1 := if_neg hc
    rw [ew] at w1 w3 w5 h1' hs' hn ⊢
    obtain ⟨σ1, e1, k1, k2, k3⟩ := wake_X (c := 1) (by decide) hW hb hR
    obtain ⟨σ', e, r1, r2, r3⟩ := put_X w1 hj h1' (by rw [hn]; exact hf) w5 hs' k1
    rw [if_neg hc, show (1 : Int32) = nI 1 from rfl, bd_eq e1]
    rw [k3] at r2
    exact ⟨σ', e, r1, r2, fun w hw => (r3 w (by omega) (by omega) (by omega)).trans (k2 w (by omega))⟩
