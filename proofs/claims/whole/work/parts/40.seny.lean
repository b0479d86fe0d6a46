/-! the sensors of a tick, on both sides -/
theorem RH_13 {σ σ' : Mem} {q i : Nat} {S : Nat → Int32} {tS tC : Nat → Int} {b : Int} (hW : WX S tS tC b) (hi : i < nS S) (h : ∀ w k, ¬ (w = q + 2 + (8 + 2 * i) ∧ k = 13) → σ' w k = σ w k) (hR : RH σ q S) : RH σ' q S := by
  have hw : ∀ w, w ≠ q + 2 + (8 + 2 * i) → σ' w = σ w := fun w hw => funext fun k => h w k (fun z => hw z.1)
  refine RH_sen hW hi (fun _ _ _ => rfl) (fun w h1 h2 h3 h4 => hw w h3) (fun k hk => h q k (by omega)) ?_ (fun k hk => h _ k (by omega)) ?_ hR
  · rw [h q 2 (by omega)]; exact hR.1.2.2.1
  · have hRR := (hR.2.2.2.1 i hi).2.1
    rw [hw (q + 2 + (8 + 2 * i) + 1) (by omega)]
    unfold RR at hRR ⊢
    rw [h _ 12 (by omega), h _ 14 (by omega), h _ 15 (by omega), h _ 16 (by omega)]
    exact hRR
theorem sensorAt_n {σ : Mem} {q i : Nat} {S : Nat → Int32} {b : Int} (hG : WG S b) (hR : RG σ q S) (hi : i < nS S) : f_Hub_sensorAt q (nI i) σ = some (some (q + 2 + (8 + 2 * i)), σ) := by
  have h4 : σ q 4 = S 1 := hR.2.2.2.2.1
  have h1 := hG.2.2.1
  have h8 := nS_le hG
  have e : (nI i).toInt = i := nI_toInt (by omega)
  unfold gI at h1
  unfold nS at hi
  rw [sensorAt_s (by rw [h4]; exact h1.2), h4, e, if_pos (by omega)]
  rfl
theorem sensorAt_0 {σ : Mem} {q i : Nat} {S : Nat → Int32} {b : Int} (hG : WG S b) (hR : RG σ q S) (hi : nS S ≤ i) (hi2 : i < 100) : f_Hub_sensorAt q (nI i) σ = some (none, σ) := by
  have h4 : σ q 4 = S 1 := hR.2.2.2.2.1
  have h1 := hG.2.2.1
  have e : (nI i).toInt = i := nI_toInt (by omega)
  unfold gI at h1
  unfold nS at hi
  rw [sensorAt_s (by rw [h4]; exact h1.2), h4, e, if_neg (by omega)]
/-- the flags of the first i sensors -/
def FR' (σ : Mem) (q : Nat) (F : Nat → Int32) (i : Nat) : Prop := ∀ k, k < i → σ (q + 2 + (8 + 2 * k)) 13 = F k
theorem senStep_X {σ : Mem} {q i n : Nat} {S F P : Nat → Int32} {tS tC : Nat → Int} {b : Int} {K : Mem → Option (Unit × Mem)} (hW : WX S tS tC b) (hi : i < nS S) (hP : P i = pd S i) (ht : tS i + 1 ≤ gI S 0) (hF : ∀ k, k < i → F k ≠ 0 → 0 < gI S (18 + 19 * k)) (hR : RH σ q S) (hFR : FR' σ q F i) : ∃ σ', L_Hub_receiveSamples_2 q K (n + 1) (nI i) σ = L_Hub_receiveSamples_2 q K n (nI (i + 1)) σ' ∧ RH σ' q (senStep P (S, F) i).1 ∧ FR' σ' q (senStep P (S, F) i).2 (i + 1) ∧ (∀ w, w < q ∨ q + 26 ≤ w → σ' w = σ w) ∧ (∀ k, k ≠ 2 → σ' q k = σ q k) ∧ (FBq σ q → FBq σ' q) := by
  have h8 := nS_le hW.1
  have hCW := CW_of hW
  have hCL := CL_of hW
  -- the flag is put to 0 first
  have hw0 : ∀ w k, ¬ (w = q + 2 + (8 + 2 * i) ∧ k = 13) → wr σ (q + 2 + (8 + 2 * i)) 13 0 w k = σ w k := fun w k h => if_neg h
  have hR0 := RH_13 hW hi hw0 hR
  have hF0 : FR' (wr σ (q + 2 + (8 + 2 * i)) 13 0) q F i := fun k hk => by
    rw [wr_m (by omega)]
    exact hFR k hk
  have hRD := (hR0.2.2.2.1 i hi).2.2
  have hq0 := (hR0.2.2.2.1 i hi).1
  have e0 : L_Hub_receiveSamples_2 q K (n + 1) (nI i) σ = (if wr σ (q + 2 + (8 + 2 * i)) 13 0 (q + 2 + (8 + 2 * i)) 10 = -9 then L_Hub_receiveSamples_2 q K n (nI (i + 1)) (wr σ (q + 2 + (8 + 2 * i)) 13 0) else bd (f_Hub_receiveSample q (nI i) (q + 2 + (8 + 2 * i)) (wr σ (q + 2 + (8 + 2 * i)) 13 0)) fun _ σ6 => L_Hub_receiveSamples_2 q K n (nI (i + 1)) σ6) := by
    show (if (8 : Int32) ≤ nI i then _ else _) = _
    rw [if_neg (show ¬ (8 : Int32) ≤ nI i from nI_ge (show i < 8 by omega) (by decide)), bd_eq (sensorAt_n hW.1 hR.1 hi), oe_some, lt_eq, ← nI_succ]
  -- no sample
  have off : ∀ F', F' = upS F i 0 → RH (wr σ (q + 2 + (8 + 2 * i)) 13 0) q S ∧ FR' (wr σ (q + 2 + (8 + 2 * i)) 13 0) q F' (i + 1) ∧ (∀ w, w < q ∨ q + 26 ≤ w → wr σ (q + 2 + (8 + 2 * i)) 13 0 w = σ w) ∧ (∀ k, k ≠ 2 → wr σ (q + 2 + (8 + 2 * i)) 13 0 q k = σ q k) ∧ (FBq σ q → FBq (wr σ (q + 2 + (8 + 2 * i)) 13 0) q) := fun F' hF' => by
    refine ⟨hR0, fun k hk => ?_, fun w hw => wr_other (by omega), fun k hk => wr_m (by omega), fun hB k hk => ?_⟩
    · rw [hF']
      by_cases e : k = i
      · rw [e, wr_h rfl rfl, upS_h rfl]
      · rw [upS_m e]
        exact hF0 k (by omega)
    · by_cases e : k = i
      · rw [e]; exact Or.inl (wr_h rfl rfl)
      · rw [wr_m (by omega)]; exact hB k hk
  -- a sample
  have on : ∀ (σ' : Mem) (S' F' : Nat → Int32), F' = upS F i 1 → RH σ' q S' → σ' (q + 2 + (8 + 2 * i)) 13 = 1 → (∀ w, w ≠ q → w ≠ q + 2 + (8 + 2 * i) → w ≠ q + 2 + (8 + 2 * i) + 1 → σ' w = wr σ (q + 2 + (8 + 2 * i)) 13 0 w) → (∀ k, k ≠ 2 → σ' q k = wr σ (q + 2 + (8 + 2 * i)) 13 0 q k) → RH σ' q S' ∧ FR' σ' q F' (i + 1) ∧ (∀ w, w < q ∨ q + 26 ≤ w → σ' w = σ w) ∧ (∀ k, k ≠ 2 → σ' q k = σ q k) ∧ (FBq σ q → FBq σ' q) := fun σ' S' F' hF' h1 h13 hfr hfq => by
    have hoth : ∀ w, w ≠ q → w ≠ q + 2 + (8 + 2 * i) → w ≠ q + 2 + (8 + 2 * i) + 1 → σ' w = σ w := fun w a1 a2 a3 => by
      rw [hfr w a1 a2 a3, wr_other a2]
    refine ⟨h1, fun k hk => ?_, fun w hw => hoth w (by omega) (by omega) (by omega), fun k hk => ?_, fun hB k hk => ?_⟩
    · rw [hF']
      by_cases e : k = i
      · rw [e, h13, upS_h rfl]
      · rw [upS_m e, hoth _ (by omega) (by omega) (by omega)]
        exact hFR k (by omega)
    · rw [hfq k hk, wr_m (by omega)]
    · by_cases e : k = i
      · rw [e]; exact Or.inr h13
      · rw [hoth _ (by omega) (by omega) (by omega)]; exact hB k hk
  have hst0 : senStep P (S, F) i = if P i = -9 then (S, upS F i 0) else if S (11 + 19 * i) = 4 then (match physS S P i with | none => (S, upS F i 0) | some x => (upS (rcvS S i x.1 x.2) 5 (S 5 + S (17 + 19 * i)), upS F i 1)) else (match derS S F i with | none => (S, upS F i 0) | some x => (rcvS S i x.1 x.2, upS F i 1)) := rfl
  rw [e0, hRD.1, hst0]
  by_cases h9 : P i = -9
  · have hd : dm S i = -9 := (pd_9 hCW hCL hi).mp (by rw [← hP]; exact h9)
    rw [if_pos hd, if_pos h9]
    exact ⟨_, rfl, off _ rfl⟩
  · have hd : ¬ dm S i = -9 := fun e => h9 (by rw [hP]; exact (pd_9 hCW hCL hi).mpr e)
    have hp := pd_ok hW hi hP h9
    rw [if_neg hd, if_neg h9]
    by_cases h4 : S (11 + 19 * i) = 4
    · rw [if_pos h4]
      have hm := meas_X hW hi ht h4 hR0 hP hp
      have es : ∀ τ : Mem, f_Hub_measure q (nI i) (q + 2 + (8 + 2 * i)) (wr σ (q + 2 + (8 + 2 * i)) 13 0) = some ((), τ) → f_Hub_receiveSample q (nI i) (q + 2 + (8 + 2 * i)) (wr σ (q + 2 + (8 + 2 * i)) 13 0) = some ((), τ) := fun τ h => by
        unfold f_Hub_receiveSample
        rw [hq0.1, if_pos h4, bd_eq h]
      cases hx : physS S P i with
      | none => exact ⟨_, bd_eq (es _ (hm.1 hx)) _, off _ rfl⟩
      | some x =>
        obtain ⟨σ', hf, h1, h13, hfr, hfq⟩ := hm.2 x hx
        exact ⟨σ', bd_eq (es _ hf) _, on σ' _ _ rfl h1 h13 hfr hfq⟩
    · rw [if_neg h4]
      have hin := in_f hW hi h4
      have hsa : f_Hub_sensorAt q (S (12 + 19 * i)) (wr σ (q + 2 + (8 + 2 * i)) 13 0) = some (some (q + 2 + (8 + 2 * (S (12 + 19 * i)).toInt.toNat)), wr σ (q + 2 + (8 + 2 * i)) 13 0) := by
        have := sensorAt_n (i := (S (12 + 19 * i)).toInt.toNat) hW.1 hR0.1 (by omega)
        rw [← hin.2.1] at this
        exact this
      have es : f_Hub_receiveSample q (nI i) (q + 2 + (8 + 2 * i)) (wr σ (q + 2 + (8 + 2 * i)) 13 0) = (if F (S (12 + 19 * i)).toInt.toNat = 0 then some ((), wr σ (q + 2 + (8 + 2 * i)) 13 0) else bd (f_Hub_computedValue q (q + 2 + (8 + 2 * i)) (q + 2 + (8 + 2 * (S (12 + 19 * i)).toInt.toNat)) (wr σ (q + 2 + (8 + 2 * i)) 13 0)) fun r6 σ7 => bd (f_Sen_accept (q + 2 + (8 + 2 * i)) (wr σ (q + 2 + (8 + 2 * i)) 13 0 (q + 2 + (8 + 2 * (S (12 + 19 * i)).toInt.toNat)) 14) r6 σ7) fun _ σ9 => some ((), σ9)) := by
        unfold f_Hub_receiveSample
        rw [hq0.1, if_neg h4, (hq0.2.2.1 h4).1, bd_eq hsa, oe_some, hF0 _ hin.1]
      rw [es]
      by_cases hF00 : F (S (12 + 19 * i)).toInt.toNat = 0
      · have hdr : derS S F i = none := if_pos hF00
        rw [if_pos hF00, hdr]
        exact ⟨_, rfl, off _ rfl⟩
      · have hdr : derS S F i = some (S (19 + 19 * (S (12 + 19 * i)).toInt.toNat), dvalS S i) := if_neg hF00
        have hsf := hF _ hin.1 hF00
        have f14 := ((hR0.2.2.2.1 (S (12 + 19 * i)).toInt.toNat (by omega)).2.1.2.1 hsf).1
        rw [if_neg hF00, hdr, bd_eq (comp_X hW hi h4 hR0 hsf), f14]
        have hn := hW.1.1
        have ea := acc_RH (st := S (19 + 19 * (S (12 + 19 * i)).toInt.toNat)) (v := dvalS S i) (x := S 5) hW (by omega) hi hR0
        have e2 : wr (wr σ (q + 2 + (8 + 2 * i)) 13 0) q 2 (S 5) = wr σ (q + 2 + (8 + 2 * i)) 13 0 := wr_id hR0.1.2.2.1
        rw [e2] at ea
        obtain ⟨σ', ha, h1, h13, hfr, hfq⟩ := ea
        have e5 : rcvS S i (S (19 + 19 * (S (12 + 19 * i)).toInt.toNat)) (dvalS S i) 5 = S 5 := rcvS_m (by omega)
        rw [← e5, ups5_id] at h1
        refine ⟨σ', ?_, on σ' _ _ rfl h1 h13 hfr hfq⟩
        rw [bd_eq ha, bd_some]
