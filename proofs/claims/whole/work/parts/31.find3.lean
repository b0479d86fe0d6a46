/-! the reference finds periods; the whole of its find -/
theorem src_src {S : Nat → Int32} (hW : CW S) {i : Nat} (hi : i < nS S) : src S (src S i) = src S i := src_id (src_4 hW hi)
theorem pd_src {S : Nat → Int32} (hW : CW S) {i : Nat} (hi : i < nS S) (h9 : dm S i ≠ -9) : pd S i = pd S (src S i) := by
  unfold pd
  rw [if_neg h9, src_src hW hi]
  by_cases h : dm S (src S i) = -9
  · rw [if_pos h, if_pos h]
  · rw [if_neg h, if_neg h]
theorem find_3 {τ : Mem} {D : Nat → Int32} {z : Int32} {K : Mem → Option (Int32 × Mem)} (hW : CW (τ 300)) (h0 : 0 ≤ gI (τ 300) 1) (hD : ∀ k, k < nS (τ 300) → D k = dm (τ 300) k) : ∃ P, L_M_find_188 299 z K FU 0 (wrow τ 304 D) = K (wrow (wrow τ 304 D) 305 P) ∧ ∀ k, k < nS (τ 300) → P k = pd (τ 300) k := by
  have h8 := hW.1
  have en : τ 300 1 = nI (nS (τ 300)) := toNI h0
  obtain ⟨σ', e, P, rfl, hP⟩ := loopR (L_M_find_188 299 z K) K (nS (τ 300)) (fun i σ => ∃ P, σ = wrow (wrow τ 304 D) 305 P ∧ ∀ k, k < i → P k = pd (τ 300) k)
    (fun n σ hI => by
      obtain ⟨P, rfl, hP⟩ := hI
      show (if wrow (wrow τ 304 D) 305 P 300 1 ≤ nI (nS (τ 300)) then _ else _) = _
      rw [wrow_m (by decide), wrow_m (by decide), en, if_pos (nI_le (Nat.le_refl _) (by omega))])
    (fun n i σ hi hI => by
      obtain ⟨P, rfl, hP⟩ := hI
      have r300 : wrow (wrow τ 304 D) 305 P 300 = τ 300 := by rw [wrow_m (by decide), wrow_m (by decide)]
      have r304 : wrow (wrow τ 304 D) 305 P 304 = D := by rw [wrow_m (by decide), wrow_h]
      have hib : ib (nI i) 8 := ib_nI (by omega) (by decide)
      have hcl : (nI i).toNatClampNeg = i := nI_clamp (by omega)
      have hs := src_le hW hi
      have bs : ∀ g : Int32 → Mem → Option (Int32 × Mem), bd (f_M_source 299 (nI i) (wrow (wrow τ 304 D) 305 P)) g = g (nI (src (τ 300) i)) (wrow (wrow τ 304 D) 305 P) := by
        have := source_s (τ := wrow (wrow τ 304 D) 305 P) (i := i) (by rw [r300]; exact hW) (by rw [r300]; exact hi)
        rw [r300] at this
        exact bd_eq this
      have fin : ∀ x, x = pd (τ 300) i → ∀ k, k < i + 1 → upS P i x k = pd (τ 300) k := fun x hx k hk => by
        by_cases e : k = i
        · rw [upS_h e, e, hx]
        · rw [upS_m e]
          exact hP k (by omega)
      generalize hL : L_M_find_188 299 z K n = Lr
      unfold L_M_find_188
      rw [hL]
      simp only [Nat.reduceAdd]
      rw [r300, r304, en, if_neg (nI_ge hi (by omega)), if_pos hib, hcl, hD i hi]
      by_cases h9 : dm (τ 300) i = -9
      · rw [if_pos h9, bs, if_pos hib, lt_eq, wr_row, wrow_h, wrow_2, ← nI_succ]
        refine ⟨_, rfl, _, rfl, fin _ ?_⟩
        unfold pd
        rw [if_pos h9]
      · rw [if_neg h9, bs]
        by_cases he : src (τ 300) i = i
        · have h4 : τ 300 (11 + 19 * i) = 4 := by
            have := src_4 hW hi
            rw [he] at this
            exact this
          have h5 : gI (τ 300) (13 + 19 * i) ≤ 5 := by
            rcases hW.2 i hi with h | h
            · exact h.2.2.1.2
            · unfold gI at h
              rw [h4] at h
              exact absurd h.1.2 (by decide)
          have hsup : ∀ d, f_M_supported 299 (nI i) d (wrow (wrow τ 304 D) 305 P) = some (sup (τ 300) i d, wrow (wrow τ 304 D) 305 P) := fun d => by
            have := supported_s (τ := wrow (wrow τ 304 D) 305 P) (i := i) (d := d) (by omega) (by rw [r300]; exact h5)
            rw [r300] at this
            exact this
          rw [he, if_pos rfl, if_pos hib, r304, hD i hi, bd_eq (hsup _), if_pos hib, lt_eq, wr_row, wrow_h, wrow_2, ← nI_succ]
          refine ⟨_, rfl, _, rfl, fin _ ?_⟩
          unfold pd
          rw [if_neg h9, he, if_neg h9]
        · rw [if_neg (fun z => he ((nI_eq (by omega) (by omega)).mp z)), if_pos (ib_nI (by omega) (by decide)), if_pos hib, lt_eq, nI_clamp (by omega), wr_row, wrow_h, wrow_2, ← nI_succ]
          refine ⟨_, rfl, _, rfl, fin _ ?_⟩
          rw [hP _ (by omega), pd_src hW hi h9]) (nS (τ 300)) 0 FU (wrow τ 304 D) (by omega) (by show _ < 4096; omega) ⟨τ 305, by rw [← wrow_id (σ := wrow τ 304 D) (v := 305), wrow_m (σ := τ) (v := 304) (b := 305) (by decide), wrow_2], fun k hk => by omega⟩
  exact ⟨P, e, hP⟩
theorem find_M {τ : Mem} (hW : CW (τ 300)) (h0 : 0 ≤ gI (τ 300) 1) : ∃ z D P, f_M_find 299 τ = some (z, wrow (wrow τ 304 D) 305 P) ∧ (∀ k, k < nS (τ 300) → D k = dm (τ 300) k) ∧ ∀ k, k < nS (τ 300) → P k = pd (τ 300) k := by
  unfold f_M_find
  obtain ⟨D, e1, h1⟩ := find_1 (τ := τ) (K := fun σ4 =>
    lt ((σ4 (299 + 1) 1) - (1 : Int32)) fun v5 =>
    L_M_find_40 299 (fun z29 σ30 =>
      L_M_find_188 299 z29 (fun σ40 =>
        if z29 &&& 1 = z29 then some (z29, σ40) else none) FU (0 : Int32) σ30) FU (1 : Int32) v5 σ4) h0 hW.1
  obtain ⟨z, D2, e2, hz, h2⟩ := find_2 (K := fun z29 σ30 =>
      L_M_find_188 299 z29 (fun σ40 =>
        if z29 &&& 1 = z29 then some (z29, σ40) else none) FU (0 : Int32) σ30) hW h0 h1
  obtain ⟨P, e3, h3⟩ := find_3 (z := z) (K := fun σ40 =>
        if z &&& 1 = z then some (z, σ40) else none) hW h0 h2
  refine ⟨z, D2, P, ?_, h2, h3⟩
  rw [e1, lt_eq]
  simp only [Nat.reduceAdd]
  rw [wrow_m (by decide), e2, e3, if_pos]
  rcases hz with rfl | rfl <;> decide
theorem keepP_M {τ : Mem} (hW : CW (τ 300)) (h0 : 0 ≤ gI (τ 300) 1) : ∃ D P O, f_M_keepPeriods 299 τ = some ((), wrow (wrow (wrow τ 304 D) 305 P) 306 O) ∧ ∀ k, k < nS (τ 300) → O k = pd (τ 300) k := by
  obtain ⟨z, D, P, e, h1, h2⟩ := find_M hW h0
  have h8 := hW.1
  unfold f_M_keepPeriods
  rw [bd_eq e]
  obtain ⟨σ', e2, O, rfl, hO⟩ := loopR (L_M_keepPeriods_7 299 (fun σ4 => some ((), σ4))) (fun σ4 => some ((), σ4)) 8 (fun i σ => ∃ O, σ = wrow (wrow (wrow τ 304 D) 305 P) 306 O ∧ ∀ k, k < i → O k = P k)
    (fun n σ hI => by
      show (if (8 : Int32) ≤ nI 8 then _ else _) = _
      rw [if_pos (by decide)])
    (fun n i σ hi hI => by
      obtain ⟨O, rfl, hO⟩ := hI
      have hib : ib (nI i) 8 := ib_nI (by omega) (by decide)
      generalize hL : L_M_keepPeriods_7 299 (fun σ4 => some ((), σ4)) n = Lr
      unfold L_M_keepPeriods_7
      rw [hL]
      simp only [Nat.reduceAdd]
      rw [if_neg (show ¬ (8 : Int32) ≤ nI i from nI_ge hi (by decide)), if_pos hib, if_pos hib, lt_eq, nI_clamp (by omega), wr_row, wrow_h, wrow_2, ← nI_succ]
      refine ⟨_, rfl, _, rfl, fun k hk => ?_⟩
      rw [wrow_m (by decide), wrow_h]
      by_cases e : k = i
      · rw [upS_h e, e]
      · rw [upS_m e]
        exact hO k (by omega)) 8 0 FU (wrow (wrow τ 304 D) 305 P) rfl (by decide) ⟨τ 306, by rw [← wrow_id (σ := wrow (wrow τ 304 D) 305 P) (v := 306), wrow_m (v := 305) (b := 306) (by decide), wrow_m (v := 304) (b := 306) (by decide), wrow_2], fun k hk => by omega⟩
  exact ⟨D, P, O, e2, fun k hk => by rw [hO k (by omega), h2 k hk]⟩
