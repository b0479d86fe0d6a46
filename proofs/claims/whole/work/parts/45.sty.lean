/-! the clients' entries of a tick: the class over all clients; deadlines -/
theorem FRk {σ σ' : Mem} {q n : Nat} {F : Nat → Int32} (hn : n ≤ 8) (h : ∀ w, (w < q ∨ q + 42 ≤ w ∨ (q + 10 ≤ w ∧ w < q + 26)) → σ' w = σ w) (hF : FR' σ q F n) : FR' σ' q F n := fun k hk => by
  rw [h _ (by omega)]
  exact hF k hk
theorem stJ_X {σ : Mem} {q j n : Nat} {S F P : Nat → Int32} {tS tC : Nat → Int} {b : Int} {K : Mem → Option (Unit × Mem)} (hW : WX S tS tC b) (hb : b ≤ 100000) (ht : ∀ j, tC j ≤ 10500) (hP : ∀ k, k < nS S → P k = pd S k) (hFs : ∀ k, k < nS S → F k ≠ 0 → 0 < gI S (18 + 19 * k)) (hj : j < 8) (hR : RH σ q S) (hFR : FR' σ q F (nS S)) : ∃ σ', L_Hub_storeEntries_2 q K (n + 1) (nI j) σ = L_Hub_storeEntries_2 q K n (nI (j + 1)) σ' ∧ RH σ' q (stJ P F S j) ∧ σ' q 5 = moJ P F S j (σ q 5) ∧ ∀ w, (w < q ∨ q + 42 ≤ w ∨ (q + 10 ≤ w ∧ w < q + 26)) → σ' w = σ w := by
  have h8 := nS_le hW.1
  have hc := (hR.2.2.2.2 j hj).1
  have hk4 := (hR.2.2.2.2 j hj).2
  show ∃ σ', (if (8 : Int32) ≤ nI j then _ else _) = _ ∧ _
  rw [if_neg (ge8 hj), bd_eq (clientAt_s j (nI_toInt (by omega)) hj), hc.1]
  unfold stJ moJ
  by_cases h1 : S (163 + 27 * j) = 1
  · obtain ⟨⟨c1, c2, c3⟩, c4, c5, c6, c7⟩ := cnt_in hW hb hj h1
    obtain ⟨s1, s2, s3, s4⟩ := sha_in hW hj h1 (hP _ c2)
    obtain ⟨⟨a1, a2, a3, a5, _⟩, _⟩ := hc.2 h1
    have hfr := hFR _ c2
    have e4 : σ (q + 3 + (23 + 2 * j)) 4 = shaS P S j := by
      rw [tE, s2]
      exact hk4 h1
    have hsa : f_Hub_sensorAt q (S (164 + 27 * j)) σ = some (some (q + 2 + (8 + 2 * (S (164 + 27 * j)).toInt.toNat)), σ) := by
      have := sensorAt_n hW.1 hR.1 c2
      rw [← c3] at this
      exact this
    have htk : f_Cli_takesNext (q + 3 + (23 + 2 * j)) σ = if keepS P S j = 0 then some ((1 : Int32), σ) else some ((0 : Int32), σ) := by
      unfold f_Cli_takesNext f_X_remainder
      rw [a5, e4, if_neg (by rw [Int32.le_iff_toInt_le, z0T]; omega), bd_eq (rem_fm (by unfold gI at c6; exact c6.1) (by omega)), bd_some]
      rfl
    rw [if_neg (by rw [h1]; decide), oe_some, a1, bd_eq hsa, oe_some, hfr, if_pos h1, if_pos h1, ← nI_succ]
    by_cases hF : F (S (164 + 27 * j)).toInt.toNat = 0
    · rw [if_pos hF, if_pos hF, if_pos hF]
      exact ⟨σ, rfl, hR, rfl, fun _ _ => rfl⟩
    · rw [if_neg hF, if_neg hF, if_neg hF, htk]
      by_cases hk : keepS P S j = 0
      · obtain ⟨σ1, e1, r1, r2, r3⟩ := storeE_X hW hb hj h1 c2 (hFs _ c2 hF) hR
        have hpas := WX_pas hW ht hj
        obtain ⟨w1, w2, w3, w4, w5⟩ := wkS_W hW hb
        have h1w : wkS S (163 + 27 * j) = 1 := by rw [cf_c w2 (j := j) (k := 0) hj (by omega) (by omega)]; exact h1
        obtain ⟨x1, x2, x3⟩ := addE_W (f := (S (164 + 27 * j)).toInt.toNat) w1 hj h1w (by rw [cfE_n w2]; exact c2) w5
        have hpr := pas_RH x1 hj (by rw [x2 _ (by omega) (by omega)]; exact h1w) r1
        have e167 : addE (wkS S) j (S (164 + 27 * j)).toInt.toNat (167 + 27 * j) = S (167 + 27 * j) := by
          rw [x2 _ (by omega) (by omega)]
          have := w4 j hj 4 (by omega)
          rw [show 163 + 27 * j + 4 = 167 + 27 * j by omega] at this
          exact this
        have eS : pasS (addE (wkS S) j (S (164 + 27 * j)).toInt.toNat) j = addE (wkS (pasS S j)) j (S (164 + 27 * j)).toInt.toNat := by
          unfold pasS
          rw [e167, wkS_up hj, addE_up hj (by omega)]
        have e3 : wkS (pasS S j) 3 = wkS S 3 := by
          unfold pasS
          rw [wkS_up hj, upS_m (by omega)]
        rw [eS] at hpr
        rw [if_pos hk, if_pos hk, if_pos hk, bd_some, if_neg (show ¬ (1 : Int32) = 0 by decide), bd_eq e1, lt_eq, e3]
        refine ⟨_, rfl, hpr, ?_, fun w hw => ?_⟩
        · rw [wr_m (by omega)]; exact r2
        · rw [wr_other (by omega)]; exact r3 w hw
      · rw [if_neg hk, if_neg hk, if_neg hk, bd_some, if_pos rfl, lt_eq]
        exact ⟨_, rfl, pas_RH hW hj h1 hR, wr_m (by omega), fun w hw => wr_other (by omega)⟩
  · have h0 : S (163 + 27 * j) = 0 := by
      rcases hW.2.2.1 j hj with h | h
      · exact h
      · exact absurd h.1 h1
    rw [if_pos h0, oe_none, if_neg h1, if_neg h1, ← nI_succ]
    exact ⟨σ, rfl, hR, rfl, fun _ _ => rfl⟩
theorem sto_X {σ : Mem} {q : Nat} {S F P : Nat → Int32} {tS tC : Nat → Int} {b : Int} (hW : WX S tS tC b) (hb : b + 8 ≤ 100000) (ht : ∀ j, tC j < 10500) (hP : ∀ k, k < nS S → P k = pd S k) (hFs : ∀ k, k < nS S → F k ≠ 0 → 0 < gI S (18 + 19 * k)) (hR : RH σ q S) (hFR : FR' σ q F (nS S)) : ∃ σ', f_Hub_storeEntries q σ = some ((), σ') ∧ RH σ' q (stN P F S 8) ∧ σ' q 5 = moN P F S (σ q 5) 8 ∧ ∀ w, (w < q ∨ q + 42 ≤ w ∨ (q + 10 ≤ w ∧ w < q + 26)) → σ' w = σ w := by
  have h8 := nS_le hW.1
  have hCW := CW_of hW
  unfold f_Hub_storeEntries
  obtain ⟨σ', e, hI⟩ := loopR (L_Hub_storeEntries_2 q (fun σ13 => some ((), σ13))) (fun σ13 => some ((), σ13)) 8 (fun j τ => RH τ q (stN P F S j) ∧ τ q 5 = moN P F S (σ q 5) j ∧ ∀ w, (w < q ∨ q + 42 ≤ w ∨ (q + 10 ≤ w ∧ w < q + 26)) → τ w = σ w)
    (fun n τ hI => by show (if (8 : Int32) ≤ nI 8 then _ else _) = _; rw [if_pos (by decide)])
    (fun n j τ hj hI => by
      obtain ⟨i1, i2, i3⟩ := hI
      obtain ⟨w1, w2, w3⟩ := stN_W (F := F) (P := P) hW hb ht hP j (by omega)
      have hn := cfE_n w2
      obtain ⟨σ', e, r1, r2, r3⟩ := stJ_X (F := F) (P := P) (n := n) (K := fun σ13 => some ((), σ13)) w1 (by omega) (fun k => by have := ht k; unfold tN; split <;> omega) (fun k hk => by rw [hn] at hk; rw [hP k hk, pd_c w2 hCW hk]) (fun k hk hf => by
        rw [hn] at hk
        unfold gI
        rw [w3 _ (by omega) (by omega) (by omega) (by omega)]
        exact hFs k hk hf) hj i1 (by rw [hn]; exact FRk h8 i3 hFR)
      refine ⟨σ', e, r1, ?_, fun w hw => (r3 w hw).trans (i3 w hw)⟩
      rw [r2, i2]
      rfl) 8 0 FU σ rfl (by decide) ⟨hR, rfl, fun _ _ => rfl⟩
  exact ⟨σ', e, hI⟩
def blS (S : Nat → Int32) (j : Nat) : Nat → Int32 := upS S (171 + 27 * j) (S (171 + 27 * j) + 1)
theorem bl_RH {σ : Mem} {q j : Nat} {S : Nat → Int32} {tS tC : Nat → Int} {b : Int} (hW : WX S tS tC b) (hj : j < 8) (h1 : S (163 + 27 * j) = 1) (hR : RH σ q S) : RH (wr σ (q + 3 + (23 + 2 * j)) 9 (σ (q + 3 + (23 + 2 * j)) 9 + 1)) q (blS S j) := by
  have h8 := nS_le hW.1
  have h2b := hW.1.2.2.2.1
  have h3b := hW.1.2.2.2.2.1
  have hm : ∀ p, p ≠ 171 + 27 * j → blS S j p = S p := fun p hp => upS_m hp
  have hcf : cfE S (blS S j) := fun p hp => hm p (by rcases hp with h | h | h <;> omega)
  have ho : ∀ w, w ≠ q + 3 + (23 + 2 * j) → wr σ (q + 3 + (23 + 2 * j)) 9 (σ (q + 3 + (23 + 2 * j)) 9 + 1) w = σ w := fun w hw => wr_other hw
  have hRS := (RH_iff.mp hR).1
  obtain ⟨hRG, hRO, hRE, hRRS, hRCS⟩ := hR
  refine RH_iff.mpr ⟨RS_keep hcf (CW_of hW) ⟨fun i k hi hk => by rw [ho _ (by omega)], fun i k hi hk => wr_m (by omega)⟩ (WX_cl hW) hRS, ?_, ?_, ?_, ?_, ?_⟩
  · unfold RG at hRG ⊢
    rw [ho q (by omega), ho (q + 1) (by omega), hm 0 (by omega), hm 6 (by omega), hm 5 (by omega), hm 4 (by omega), hm 1 (by omega)]
    refine ⟨hRG.1, hRG.2.1, hRG.2.2.1, hRG.2.2.2.1, hRG.2.2.2.2.1, fun c hc => ?_⟩
    rw [hm (7 + c) (by omega)]
    exact hRG.2.2.2.2.2 c hc
  · unfold RO gI at hRO ⊢
    unfold gI at h2b
    rw [ho (q + 4) (by omega), ho (q + 4 + 1) (by omega), ho (q + 4 + 2) (by omega), ho (q + 4 + 3) (by omega), hm 2 (by omega)]
    refine ⟨hRO.1, fun o ho2 => ?_⟩
    rw [hm (379 + 3 * o) (by omega), hm (380 + 3 * o) (by omega), hm (381 + 3 * o) (by omega)]
    exact hRO.2 o ho2
  · unfold RE gI at hRE ⊢
    rw [ho (q + 8) (by omega), ho (q + 8 + 1) (by omega), hm 3 (by omega)]
    refine ⟨hRE.1, fun e p he hp => ?_⟩
    rw [hm (391 + 3 * e + p) (by omega)]
    exact hRE.2 e p he hp
  · intro i hi
    rw [cfE_n hcf] at hi
    rw [ho _ (by omega), ho _ (by omega)]
    exact RR_cong (fun p _ _ => hm p (by omega)) (hRRS i hi).2.1
  · intro k hk
    by_cases e : k = j
    · subst e
      have hc := (hRCS k hk).1
      rw [ho (q + 3 + (23 + 2 * k) + 1) (by omega)]
      obtain ⟨a0, hr⟩ := hc
      obtain ⟨⟨a1, a2, a3, a5, a6, a7, a9, a8⟩, al⟩ := hr h1
      unfold RC
      unfold gI at al ⊢
      rw [hm (163 + 27 * k) (by omega), hm (164 + 27 * k) (by omega), hm (165 + 27 * k) (by omega), hm (166 + 27 * k) (by omega), hm (167 + 27 * k) (by omega), hm (168 + 27 * k) (by omega), hm (169 + 27 * k) (by omega), hm (170 + 27 * k) (by omega), show blS S k (171 + 27 * k) = S (171 + 27 * k) + 1 from upS_h rfl]
      refine ⟨by rw [wr_m (by omega)]; exact a0, fun _ => ⟨⟨?_, ?_, ?_, ?_, ?_, ?_, ?_, ?_⟩, fun d p hd hdD hp => ?_⟩⟩
      · rw [wr_m (by omega)]; exact a1
      · rw [wr_m (by omega)]; exact a2
      · rw [wr_m (by omega)]; exact a3
      · rw [wr_m (by omega)]; exact a5
      · rw [wr_m (by omega)]; exact a6
      · rw [wr_m (by omega)]; exact a7
      · rw [wr_h rfl rfl, a9]
      · rw [wr_m (by omega)]; exact a8
      · rw [hm (172 + 27 * k + 3 * d + p) (by omega)]
        exact al d p hd hdD hp
    · rw [ho _ (by omega), ho _ (by omega)]
      exact RC_cong (fun p _ _ => hm p (by omega)) (hRCS k hk).1
theorem WX_bl {S : Nat → Int32} {tS tC : Nat → Int} {b : Int} (hW : WX S tS tC b) {j : Nat} (hj : j < 8) : WX (blS S j) tS tC b := by
  have h8 := nS_le hW.1
  have hm : ∀ p, p ≠ 171 + 27 * j → blS S j p = S p := fun p hp => upS_m hp
  have gm : ∀ p, p ≠ 171 + 27 * j → gI (blS S j) p = gI S p := fun p hp => congrArg Int32.toInt (hm p hp)
  have hcf : cfE S (blS S j) := fun p hp => hm p (by rcases hp with h | h | h <;> omega)
  refine ⟨?_, fun i hi => ?_, fun k hk => ?_, fun e he => ?_⟩
  · unfold WG
    rw [gm 0 (by omega), gm 6 (by omega), gm 1 (by omega), gm 2 (by omega), gm 3 (by omega), gm 4 (by omega), gm 7 (by omega), gm 8 (by omega), gm 9 (by omega), gm 10 (by omega)]
    exact hW.1
  · rw [cfE_n hcf] at hi
    obtain ⟨h1, h2⟩ := hW.2.1 i hi
    exact ⟨WP_cong (fun p _ _ => hm p (by omega)) h1, WR_cong (hm 0 (by omega)) (fun p _ _ => hm p (by omega)) h2⟩
  · exact WC_cong hk hcf (CW_of hW) (WX_cl hW k hk) (hm 3 (by omega)) (fun p _ _ => hm p (by omega)) (hW.2.2.1 k hk)
  · rw [gm 3 (by omega)] at he
    have hE := hW.2.2.2 e he
    have h3 := hW.1.2.2.2.2.1
    unfold WE gI at hE ⊢
    rw [hm (391 + 3 * e) (by omega), hm (392 + 3 * e) (by omega), hm (163 + 27 * (S (391 + 3 * e)).toInt.toNat) (by omega)]
    exact hE
