/-! all sensors of a tick -/
theorem ge8 {i : Nat} (h : i < 8) : ¬ (8 : Int32) ≤ nI i := nI_ge h (by decide)
theorem upS_2 {f : Nat → Int32} {k : Nat} {x y : Int32} : upS (upS f k x) k y = upS f k y := by
  funext j
  by_cases e : j = k
  · rw [upS_h e, upS_h e]
  · rw [upS_m e, upS_m e, upS_m e]
theorem wrow4 {τ : Mem} {v w : Nat} {f f' g g' : Nat → Int32} : wrow (wrow (wrow (wrow τ v f) w g) v f') w g' = wrow (wrow τ v f') w g' := by
  funext b
  unfold wrow
  by_cases e : b = w
  · rw [if_pos e, if_pos e]
  · by_cases e2 : b = v
    · simp only [if_neg e, if_pos e2]
    · simp only [if_neg e, if_neg e2]
theorem phys_P {S P P' : Nat → Int32} {i : Nat} (h : P' i = P i) : physS S P' i = physS S P i := by
  unfold physS timeS stampS
  rw [h]
theorem der_F {S F F' : Nat → Int32} {i : Nat} (h : F' (S (12 + 19 * i)).toInt.toNat = F (S (12 + 19 * i)).toInt.toNat) : derS S F' i = derS S F i := by
  unfold derS
  simp only [h]
def tN (T : Nat → Int) (i : Nat) : Nat → Int := fun k => if k < i then T k + 1 else T k
theorem tN_s (T : Nat → Int) (i : Nat) : tUp (tN T i) i = tN T (i + 1) := by
  funext k
  unfold tUp tN
  by_cases e : k = i
  · subst e
    rw [if_pos rfl, if_neg (by omega), if_pos (by omega)]
  · rw [if_neg e]
    by_cases h : k < i
    · rw [if_pos h, if_pos (by omega)]
    · rw [if_neg h, if_neg (by omega)]
theorem senN_W {S F P : Nat → Int32} {T tC : Nat → Int} {b : Int} (hW : WX S T tC b) (hP : ∀ k, k < nS S → P k = pd S k) (ht : ∀ k, k < nS S → T k + 1 ≤ gI S 0) : ∀ i, i ≤ nS S → WX (senN P (S, F) i).1 (tN T i) tC b ∧ (∀ k, k < i → (senN P (S, F) i).2 k ≠ 0 → 0 < gI (senN P (S, F) i).1 (18 + 19 * k)) ∧ (∀ p, (p < 18 ∨ 163 ≤ p) → p ≠ 5 → (senN P (S, F) i).1 p = S p) ∧ cfE S (senN P (S, F) i).1 := by
  have h8 := nS_le hW.1
  have hCW := CW_of hW
  intro i
  induction i with
  | zero =>
    intro _
    have e : tN T 0 = T := by
      funext k
      unfold tN
      rw [if_neg (by omega)]
    rw [e]
    exact ⟨hW, fun k hk => by omega, fun _ _ _ => rfl, cfE_rfl⟩
  | succ i ih =>
    intro hi
    obtain ⟨w1, w2, w3, w4⟩ := ih (by omega)
    have hn := cfE_n w4
    show WX (senStep P (senN P (S, F) i) i).1 _ tC b ∧ (∀ k, k < i + 1 → (senStep P (senN P (S, F) i) i).2 k ≠ 0 → 0 < gI (senStep P (senN P (S, F) i) i).1 (18 + 19 * k)) ∧ (∀ p, (p < 18 ∨ 163 ≤ p) → p ≠ 5 → (senStep P (senN P (S, F) i) i).1 p = S p) ∧ cfE S (senStep P (senN P (S, F) i) i).1
    have g0 : gI (senN P (S, F) i).1 0 = gI S 0 := congrArg Int32.toInt (w3 0 (by omega) (by omega))
    have hst := senStep_W (P := P) (F := (senN P (S, F) i).2) w1 (by rw [hn]; omega) (by rw [hP i (by omega), pd_c w4 hCW (by omega)]) (by rw [g0]; unfold tN; rw [if_neg (by omega)]; exact ht i (by omega)) w2
    rw [tN_s] at hst
    obtain ⟨s1, s2, s3, s4⟩ := hst
    refine ⟨s1, s2, fun p hp h5 => (s3 p (by omega) h5).trans (w3 p hp h5), cfE_tr w4 (fun p hp => s3 p ?_ ?_)⟩
    · rcases hp with h | h | h <;> omega
    · rcases hp with h | h | h <;> omega
/-- the class's sensors of a tick -/
theorem sens_X {σ : Mem} {q : Nat} {S F P : Nat → Int32} {T tC : Nat → Int} {b : Int} (hW : WX S T tC b) (hP : ∀ k, k < nS S → P k = pd S k) (ht : ∀ k, k < nS S → T k + 1 ≤ gI S 0) (hR : RH σ q S) : ∃ σ', f_Hub_receiveSamples q σ = some ((), σ') ∧ RH σ' q (senN P (S, F) (nS S)).1 ∧ FR' σ' q (senN P (S, F) (nS S)).2 (nS S) ∧ (∀ w, w < q ∨ q + 26 ≤ w → σ' w = σ w) ∧ (∀ k, k ≠ 2 → σ' q k = σ q k) ∧ (FBq σ q → FBq σ' q) := by
  have h8 := nS_le hW.1
  have hCW := CW_of hW
  unfold f_Hub_receiveSamples
  obtain ⟨σ', e, hI⟩ := loopR (L_Hub_receiveSamples_2 q (fun σ7 => some ((), σ7))) (fun σ7 => some ((), σ7)) 8 (fun i τ => RH τ q (senN P (S, F) (min i (nS S))).1 ∧ FR' τ q (senN P (S, F) (min i (nS S))).2 (min i (nS S)) ∧ (∀ w, w < q ∨ q + 26 ≤ w → τ w = σ w) ∧ (∀ k, k ≠ 2 → τ q k = σ q k) ∧ (FBq σ q → FBq τ q))
    (fun n τ hI => by show (if (8 : Int32) ≤ nI 8 then _ else _) = _; rw [if_pos (by decide)])
    (fun n i τ hi hI => by
      by_cases hin : i < nS S
      · have e1 : min i (nS S) = i := by omega
        have e2 : min (i + 1) (nS S) = i + 1 := by omega
        rw [e1] at hI
        rw [e2]
        obtain ⟨i1, i2, i3, i4, i5⟩ := hI
        obtain ⟨w1, w2, w3, w4⟩ := senN_W (F := F) hW hP ht i (by omega)
        have g0 : gI (senN P (S, F) i).1 0 = gI S 0 := congrArg Int32.toInt (w3 0 (by omega) (by omega))
        obtain ⟨σ', e, r1, r2, r3, r4, r5⟩ := senStep_X (n := n) (K := fun σ7 => some ((), σ7)) (P := P) (F := (senN P (S, F) i).2) w1 (by rw [cfE_n w4]; exact hin) (by rw [hP i hin, pd_c w4 hCW hin]) (by rw [g0]; unfold tN; rw [if_neg (by omega)]; exact ht i hin) w2 i1 i2
        exact ⟨σ', e, r1, r2, fun w hw => (r3 w hw).trans (i3 w hw), fun k hk => (r4 k hk).trans (i4 k hk), fun hB => r5 (i5 hB)⟩
      · have e1 : min i (nS S) = nS S := by omega
        have e2 : min (i + 1) (nS S) = nS S := by omega
        rw [e1] at hI
        rw [e2]
        obtain ⟨w1, w2, w3, w4⟩ := senN_W (F := F) hW hP ht (nS S) (Nat.le_refl _)
        refine ⟨τ, ?_, hI⟩
        show (if (8 : Int32) ≤ nI i then _ else _) = _
        rw [if_neg (ge8 hi), bd_eq (sensorAt_0 w1.1 hI.1.1 (by rw [cfE_n w4]; omega) (by omega)), oe_none, ← nI_succ]) 8 0 FU σ rfl (by decide) ⟨by rw [Nat.zero_min]; exact hR, fun k hk => by rw [Nat.zero_min] at hk; omega, fun _ _ => rfl, fun _ _ => rfl, id⟩
  rw [show min 8 (nS S) = nS S by omega] at hI
  exact ⟨σ', e, hI⟩
/-- the reference's sensors of a tick -/
theorem tick12_M {τ : Mem} {T tC : Nat → Int} {b : Int} {P : Nat → Int32} {K : Mem → Option (Unit × Mem)} (hW : WX (τ 300) T tC b) (hP : ∀ k, k < nS (τ 300) → P k = pd (τ 300) k) (hPP : ∀ k, k < nS (τ 300) → τ 305 k = P k) (ht : ∀ k, k < nS (τ 300) → T k + 1 ≤ gI (τ 300) 0) : L_M_tick_12 299 K FU 0 τ = K (wrow (wrow τ 307 (senN P (τ 300, τ 307) (nS (τ 300))).2) 300 (senN P (τ 300, τ 307) (nS (τ 300))).1) := by
  have h8 := nS_le hW.1
  have hCW := CW_of hW
  have en : τ 300 1 = nI (nS (τ 300)) := toNI hW.1.2.2.1.1
  obtain ⟨σ', e, rfl⟩ := loopR (L_M_tick_12 299 K) K (nS (τ 300)) (fun i σ => σ = wrow (wrow τ 307 (senN P (τ 300, τ 307) i).2) 300 (senN P (τ 300, τ 307) i).1)
    (fun n σ hI => by
      subst hI
      obtain ⟨w1, w2, w3, w4⟩ := senN_W (F := τ 307) hW hP ht (nS (τ 300)) (Nat.le_refl _)
      show (if wrow (wrow τ 307 _) 300 (senN P (τ 300, τ 307) (nS (τ 300))).1 300 1 ≤ nI (nS (τ 300)) then _ else _) = _
      rw [wrow_h, w3 1 (by omega) (by omega), en, if_pos (nI_le (Nat.le_refl _) (by omega))])
    (fun n i σ hi hI => by
      subst hI
      obtain ⟨w1, w2, w3, w4⟩ := senN_W (F := τ 307) hW hP ht i (by omega)
      refine ⟨_, ?_, rfl⟩
      have hib : ib (nI i) 8 := ib_nI (by omega) (by decide)
      have e0 : (0 : Int32) &&& 1 = 0 := by decide
      have hPi := hP i hi
      have hPP' := hPP i hi
      have hpdi : P i = pd (senN P (τ 300, τ 307) i).1 i := by rw [hPi, pd_c w4 hCW hi]
      have hni : i < nS (senN P (τ 300, τ 307) i).1 := by rw [cfE_n w4]; exact hi
      show _ = L_M_tick_12 299 K n (nI (i + 1)) (wrow (wrow τ 307 (senStep P (senN P (τ 300, τ 307) i) i).2) 300 (senStep P (senN P (τ 300, τ 307) i) i).1)
      generalize senN P (τ 300, τ 307) i = w at *
      obtain ⟨S, F⟩ := w
      simp only at w1 w2 w3 w4 hpdi hni ⊢
      have hmem : wr (wrow (wrow τ 307 F) 300 S) 307 i 0 = wrow (wrow τ 307 (upS F i 0)) 300 S := by
        rw [wr_row, wrow_m (by decide), wrow_h, wrow_c (by decide), wrow_2]
      generalize hL : L_M_tick_12 299 K n = Lr
      unfold L_M_tick_12
      rw [hL]
      simp only [Nat.reduceAdd]
      rw [wrow_h, w3 1 (by omega) (by omega), en, if_neg (nI_ge hi (by omega)), if_pos hib, lt_eq, if_pos hib, e0, nI_clamp (by omega), hmem, if_pos hib, ← nI_succ]
      have hst0 : senStep P (S, F) i = if P i = -9 then (S, upS F i 0) else if S (11 + 19 * i) = 4 then (match physS S P i with | none => (S, upS F i 0) | some x => (upS (rcvS S i x.1 x.2) 5 (S 5 + S (17 + 19 * i)), upS F i 1)) else (match derS S F i with | none => (S, upS F i 0) | some x => (rcvS S i x.1 x.2, upS F i 1)) := rfl
      rw [hst0]
      have r305 : wrow (wrow τ 307 (upS F i 0)) 300 S 305 i = P i := by rw [wrow_m (by decide), wrow_m (by decide)]; exact hPP'
      have r300 : wrow (wrow τ 307 (upS F i 0)) 300 S 300 = S := wrow_h
      have r307 : wrow (wrow τ 307 (upS F i 0)) 300 S 307 = upS F i 0 := by rw [wrow_m (by decide), wrow_h]
      rw [r305]
      by_cases h9 : P i = -9
      · rw [if_pos h9, if_pos h9, if_pos h9]
      · have hp := pd_ok w1 hni hpdi h9
        have hWRi := (w1.2.1 i hni).2
        have hWPi := (w1.2.1 i hni).1
        rw [if_neg h9, if_neg h9, bsen (p := 11 + 19 * i) 0 0 (by decide) (by omega) (by decide) (by omega), r300]
        by_cases h4 : S (11 + 19 * i) = 4
        · have hj : 0 ≤ gI S (16 + 19 * i) ∧ gI S (16 + 19 * i) ≤ 9 := by
            rcases hWPi with h | h
            · exact h.2.2.2.2.2.1
            · unfold gI at h
              rw [h4] at h
              exact absurd h.1.2 (by decide)
          have hph := phys_M (τ := wrow (wrow τ 307 (upS F i 0)) 300 S) (i := i) (by omega) (by rw [r300]; exact w1.1.2.2.2.1) (by rw [r300]; exact hWRi.2.2.2.1.1) (by rw [r300]; exact hj)
          rw [r300, r307, phys_P r305] at hph
          rw [if_pos h4, if_pos h4, bd_eq hph]
          cases hx : physS S P i with
          | none => rfl
          | some x =>
            simp only []
            rw [upS_2, wrow4]
        · have hin := in_f w1 hni h4
          have hdf : derS S (upS F i 0) i = derS S F i := der_F (upS_m (by omega))
          have hdr := der_M (τ := wrow (wrow τ 307 (upS F i 0)) 300 S) (i := i) (by omega) (by rw [r300]; exact hWPi) (by rw [r300]; exact h4) (by rw [r300]; exact hWRi.2.2.2.1.1) (by
            rw [r300, r307, upS_m (by omega)]
            intro hf hv
            exact (w1.2.1 _ (by omega)).2.2.2.2.2.2 (w2 _ hin.1 hf) hv)
          rw [r300, r307, hdf] at hdr
          rw [if_neg h4, if_neg h4, if_pos hib, r305, if_neg h9, bd_eq hdr]
          cases hx : derS S F i with
          | none => rfl
          | some x =>
            simp only []
            rw [upS_2, wrow4]) (nS (τ 300)) 0 FU τ (by omega) (by show _ < 4096; omega) (by
      show τ = wrow (wrow τ 307 (τ 307)) 300 (τ 300)
      rw [wrow_id, wrow_id])
  exact e
