/-! the clients' entries of a tick: the row over all clients, the reference -/
def pN (P S S' : Nat → Int32) : Prop := ∀ k, k < nS S → P k = pd S' k
theorem stJ_W {P F S : Nat → Int32} {tS tC : Nat → Int} {b : Int} (hW : WX S tS tC b) (hb : b ≤ 100000) (ht : ∀ j, tC j ≤ 10500) (hP : ∀ k, k < nS S → P k = pd S k) {j : Nat} (hj : j < 8) : WX (stJ P F S j) tS (tUp tC j) (b + 1) ∧ cfE S (stJ P F S j) ∧ (∀ p, p < 163 → p ≠ 3 → p ≠ 5 → p ≠ 8 → stJ P F S j p = S p) := by
  have hmono : ∀ {S' : Nat → Int32} {tC' : Nat → Int} {b b' : Int}, WX S' tS tC' b → b ≤ b' → WX S' tS tC' b' := fun h hbb => by
    refine ⟨?_, h.2.1, fun k hk => ?_, h.2.2.2⟩
    · have := h.1
      unfold WG at this ⊢
      omega
    · rcases h.2.2.1 k hk with h2 | h2
      · exact Or.inl h2
      · right
        obtain ⟨d0, d1, d2, d3, d4, d5, d6, d7⟩ := h2
        exact ⟨d0, d1, d2, d3, d4, ⟨d5.1, by omega⟩, d6, d7⟩
  have hup : WX S tS (tUp tC j) (b + 1) := by
    have h : WX S tS (tUp tC j) b := ⟨hW.1, hW.2.1, fun k hk => by
      rcases hW.2.2.1 k hk with h2 | h2
      · exact Or.inl h2
      · right
        obtain ⟨d0, d1, d2, d3, d4, d5, d6, d7⟩ := h2
        exact ⟨d0, d1, d2, d3, ⟨d4.1, by unfold tUp; split <;> omega⟩, d5, d6, d7⟩, hW.2.2.2⟩
    exact hmono h (by omega)
  have hpas := WX_pas hW ht hj
  have hpm : ∀ p, p ≠ 167 + 27 * j → pasS S j p = S p := fun p hp => upS_m hp
  have hpc : cfE S (pasS S j) := fun p hp => hpm p (by rcases hp with h | h | h <;> omega)
  unfold stJ
  by_cases h1 : S (163 + 27 * j) = 1
  · rw [if_pos h1]
    by_cases hF : F (S (164 + 27 * j)).toInt.toNat = 0
    · rw [if_pos hF]
      exact ⟨hup, cfE_rfl, fun _ _ _ _ _ => rfl⟩
    · rw [if_neg hF]
      by_cases hk : keepS P S j = 0
      · rw [if_pos hk]
        obtain ⟨w1, w2, w3, w4, w5⟩ := wkS_W hpas hb
        have hf := (cnt_in hW hb hj h1).1.2.1
        have hn : nS (wkS (pasS S j)) = nS S := by rw [cfE_n w2, cfE_n hpc]
        obtain ⟨a1, a2, a3⟩ := addE_W (f := (S (164 + 27 * j)).toInt.toNat) w1 hj (by rw [cf_c w2 (j := j) (k := 0) hj (by omega) (by omega), hpm _ (by omega)]; exact h1) (by rw [hn]; exact hf) w5
        refine ⟨a1, fun p hp => ?_, fun p h2 h3 h5 h8 => ?_⟩
        · rw [a2 p (by rcases hp with h | h | h <;> omega) (by rcases hp with h | h | h <;> omega), w2 p hp, hpc p hp]
        · rw [a2 p (by omega) h3, w3 p h2 h3 h5 h8, hpm p (by omega)]
      · rw [if_neg hk]
        exact ⟨hmono hpas (by omega), hpc, fun p h2 _ _ _ => hpm p (by omega)⟩
  · rw [if_neg h1]
    exact ⟨hup, cfE_rfl, fun _ _ _ _ _ => rfl⟩
theorem stN_W {P F S : Nat → Int32} {tS tC : Nat → Int} {b : Int} (hW : WX S tS tC b) (hb : b + 8 ≤ 100000) (ht : ∀ j, tC j < 10500) (hP : ∀ k, k < nS S → P k = pd S k) : ∀ j, j ≤ 8 → WX (stN P F S j) tS (tN tC j) (b + j) ∧ cfE S (stN P F S j) ∧ (∀ p, p < 163 → p ≠ 3 → p ≠ 5 → p ≠ 8 → stN P F S j p = S p) := by
  have hCW := CW_of hW
  intro j
  induction j with
  | zero =>
    intro _
    have e : tN tC 0 = tC := by
      funext k
      unfold tN
      rw [if_neg (by omega)]
    rw [e, show b + ((0 : Nat) : Int) = b by omega]
    exact ⟨hW, cfE_rfl, fun _ _ _ _ _ => rfl⟩
  | succ j ih =>
    intro hj
    obtain ⟨w1, w2, w3⟩ := ih (by omega)
    have hs := stJ_W (F := F) (P := P) w1 (by omega) (fun k => by have := ht k; unfold tN; split <;> omega) (fun k hk => by rw [cfE_n w2] at hk; rw [hP k hk, pd_c w2 hCW hk]) (show j < 8 by omega)
    rw [tN_s, show b + (j : Int) + 1 = b + ((j + 1 : Nat) : Int) by omega] at hs
    exact ⟨hs.1, cfE_tr w2 hs.2.1, fun p h1 h2 h3 h4 => (hs.2.2 p h1 h2 h3 h4).trans (w3 p h1 h2 h3 h4)⟩
theorem put_M {τ : Mem} {j f : Nat} (hj : j < 8) (hf : f < 8) (h3 : 0 ≤ gI (τ 300) 3 ∧ gI (τ 300) 3 < 30) : (lt ((391 : Int32) + ((3 : Int32) * (τ 300 3))) fun v11 =>
            if ib v11 481 then
              lt (wr τ 300 v11.toNatClampNeg (nI j)) fun σ12 =>
              bd (f_M_sensor0 299 (nI f) (8 : Int32) σ12) fun r13 σ14 =>
              if ib (v11 + (1 : Int32)) 481 then
                lt (wr σ14 300 (v11 + (1 : Int32)).toNatClampNeg r13) fun σ15 =>
                bd (f_M_sensor0 299 (nI f) (9 : Int32) σ15) fun r16 σ17 =>
                if ib (v11 + (2 : Int32)) 481 then
                  lt (wr σ17 300 (v11 + (2 : Int32)).toNatClampNeg r16) fun σ18 =>
                  lt (wr σ18 300 3 ((σ18 300 3) + (1 : Int32))) fun σ19 =>
                  some ((), σ19)
                else none
              else none
            else (none : Option (Unit × Mem))) = some ((), wrow τ 300 (addE (τ 300) j f)) := by
  have e3 : τ 300 3 = nI (τ 300 3).toInt.toNat := toNI h3.1
  have hn : (τ 300 3).toInt.toNat < 30 := by unfold gI at h3; omega
  unfold addE
  generalize hN : (τ 300 3).toInt.toNat = N at *
  have s8 : ∀ (σ : Mem) (g : Int32 → Mem → Option (Unit × Mem)), bd (f_M_sensor0 299 (nI f) 8 σ) g = g (σ 300 (19 + 19 * f)) σ := fun σ g => bsen (p := 19 + 19 * f) 8 8 (by decide) hf (by decide) (by omega) g
  have s9 : ∀ (σ : Mem) (g : Int32 → Mem → Option (Unit × Mem)), bd (f_M_sensor0 299 (nI f) 9 σ) g = g (σ 300 (20 + 19 * f)) σ := fun σ g => bsen (p := 20 + 19 * f) 9 9 (by decide) hf (by decide) (by omega) g
  rw [e3]
  simp (disch := omega) only [↓s8, ↓s9, ↓lt_eq, nI_Lm, nI_La, nI_aL, ib_T, nI_clamp, ↓reduceIte, wr_row, wrow_h, wrow_2, upS_m, show 391 + 3 * N + 1 = 392 + 3 * N by omega, show 391 + 3 * N + 2 = 393 + 3 * N by omega, e3]
theorem store_M {τ : Mem} {P : Nat → Int32} {tS tC : Nat → Int} {b : Int} (hW : WX (τ 300) tS tC b) (hb : b ≤ 100000) (ht : ∀ j, tC j ≤ 10500) {j : Nat} (hj : j < 8) (h1 : τ 300 (163 + 27 * j) = 1) (hP : P (τ 300 (164 + 27 * j)).toInt.toNat = pd (τ 300) (τ 300 (164 + 27 * j)).toInt.toNat) (hPP : τ 305 (τ 300 (164 + 27 * j)).toInt.toNat = P (τ 300 (164 + 27 * j)).toInt.toNat) : f_M_store 299 (nI j) τ = some ((), wrow τ 300 (if keepS P (τ 300) j = 0 then addE (wkS (pasS (τ 300) j)) j (τ 300 (164 + 27 * j)).toInt.toNat else pasS (τ 300) j)) := by
  have h8 := nS_le hW.1
  obtain ⟨⟨c1, c2, c3⟩, c4, c5, c6, c7⟩ := cnt_in hW hb hj h1
  obtain ⟨s1, s2, s3, s4⟩ := sha_in hW hj h1 hP
  have hpas := WX_pas hW ht hj
  have hw := wkS_W hpas hb
  unfold shaS at s2 s3 s4
  unfold keepS shaS
  have b1 := fun g : Int32 → Mem → Option (Unit × Mem) => bcli (τ := τ) (i := j) (p := 164 + 27 * j) 1 1 (by decide) hj (by decide) (by omega) g
  have b2 := fun g : Int32 → Mem → Option (Unit × Mem) => bcli (τ := τ) (i := j) (p := 165 + 27 * j) 2 2 (by decide) hj (by decide) (by omega) g
  have b4 := fun g : Int32 → Mem → Option (Unit × Mem) => bcli (τ := τ) (i := j) (p := 167 + 27 * j) 4 4 (by decide) hj (by decide) (by omega) g
  have hib : ib (nI (τ 300 (164 + 27 * j)).toInt.toNat) 8 := ib_nI (by omega) (by decide)
  have hcl : (nI (τ 300 (164 + 27 * j)).toInt.toNat).toNatClampNeg = (τ 300 (164 + 27 * j)).toInt.toNat := nI_clamp (by omega)
  have e4 : (163 : Int32) + 27 * nI j + 4 = nI (167 + 27 * j) := by
    rw [nI_Lm, nI_La, nI_aL]
    exact congrArg nI (by omega)
  have hz1 : ¬ P (τ 300 (164 + 27 * j)).toInt.toNat = 0 := fun e => by rw [e, z0T] at s1; omega
  have hz2 : ¬ τ 300 (165 + 27 * j) / P (τ 300 (164 + 27 * j)).toInt.toNat = 0 := fun e => by rw [e, z0T] at s3; omega
  have hm9 : wr τ 300 (167 + 27 * j) (τ 300 (167 + 27 * j) + 1) = wrow τ 300 (pasS (τ 300) j) := by rw [wr_row]; rfl
  have hcc : (nI (τ 300 (164 + 27 * j)).toInt.toNat).toInt.toNat = (τ 300 (164 + 27 * j)).toInt.toNat := by rw [← c3]
  unfold f_M_store
  rw [b1, b2, c3, hcc, if_pos hib, hcl]
  simp only [Nat.reduceAdd]
  rw [hPP, if_neg hz1, lt_eq, b4, e4, if_pos (ib_nI (by omega) (by decide)), lt_eq, if_pos (ib_nI (by omega) (by decide)), lt_eq, nI_clamp (by omega), if_neg hz2, lt_eq, hm9]
  by_cases hk : τ 300 (167 + 27 * j) - τ 300 (167 + 27 * j) / (τ 300 (165 + 27 * j) / P (τ 300 (164 + 27 * j)).toInt.toNat) * (τ 300 (165 + 27 * j) / P (τ 300 (164 + 27 * j)).toInt.toNat) = 0
  · rw [if_pos hk, if_pos hk, wrow_h]
    have hw5 := hw.2.2.2.2
    have hw3 := hw.1.1.2.2.2.2.1
    have hw4 := hw.1.1.2.2.2.2.2.1
    unfold wkS at hw5 hw3 hw4 ⊢
    by_cases hc : pasS (τ 300) j 3 < pasS (τ 300) j 4
    · rw [if_pos hc] at hw5 hw3 hw4 ⊢
      rw [if_pos hc]
      have := put_M (τ := wrow τ 300 (pasS (τ 300) j)) (j := j) (f := (τ 300 (164 + 27 * j)).toInt.toNat) hj (by omega) (by rw [wrow_h]; exact ⟨hw3.1, by omega⟩)
      rw [wrow_h, wrow_2] at this
      exact this
    · rw [if_neg hc] at hw5 hw3 hw4 ⊢
      rw [if_neg hc]
      have hwk := wake_M (τ := wrow τ 300 (pasS (τ 300) j)) (c := 1) (by decide) (by rw [wrow_h]; exact hpas.1.2.2.2.2.1) (by rw [wrow_h]; exact fun e he => (hpas.2.2.2 e he).1)
      rw [wrow_h, wrow_2, show nI 1 = (1 : Int32) from rfl] at hwk
      rw [bd_eq hwk]
      have := put_M (τ := wrow τ 300 (wakeS (pasS (τ 300) j) 1)) (j := j) (f := (τ 300 (164 + 27 * j)).toInt.toNat) hj (by omega) (by rw [wrow_h]; exact ⟨hw3.1, by omega⟩)
      rw [wrow_h, wrow_2] at this
      exact this
  · rw [if_neg hk, if_neg hk]
theorem tick82_M {τ : Mem} {P : Nat → Int32} {tS tC : Nat → Int} {b : Int} {K : Mem → Option (Unit × Mem)} (hW : WX (τ 300) tS tC b) (hb : b + 8 ≤ 100000) (ht : ∀ j, tC j < 10500) (hP : ∀ k, k < nS (τ 300) → P k = pd (τ 300) k) (hPP : ∀ k, k < nS (τ 300) → τ 305 k = P k) : L_M_tick_82 299 K FU 0 τ = K (wrow τ 300 (stN P (τ 307) (τ 300) 8)) := by
  have h8 := nS_le hW.1
  have hCW := CW_of hW
  obtain ⟨σ', e, rfl⟩ := loopR (L_M_tick_82 299 K) K 8 (fun j σ => σ = wrow τ 300 (stN P (τ 307) (τ 300) j))
    (fun n σ _ => by show (if (8 : Int32) ≤ nI 8 then _ else _) = _; rw [if_pos (by decide)])
    (fun n j σ hj hI => by
      subst hI
      obtain ⟨w1, w2, w3⟩ := stN_W (F := τ 307) (P := P) hW hb ht hP j (by omega)
      refine ⟨_, ?_, rfl⟩
      show _ = L_M_tick_82 299 K n (nI (j + 1)) (wrow τ 300 (stJ P (τ 307) (stN P (τ 307) (τ 300) j) j))
      have hPn : ∀ k, k < nS (τ 300) → P k = pd (stN P (τ 307) (τ 300) j) k := fun k hk => by rw [hP k hk, pd_c w2 hCW hk]
      have hnn := cfE_n w2
      generalize stN P (τ 307) (τ 300) j = S at *
      have r305 : wrow τ 300 S 305 = τ 305 := wrow_m (by decide)
      have r307 : wrow τ 300 S 307 = τ 307 := wrow_m (by decide)
      have b0 := fun g : Int32 → Mem → Option (Unit × Mem) => bcli (τ := wrow τ 300 S) (i := j) (p := 163 + 27 * j) 0 0 (by decide) hj (by decide) (by omega) g
      have b1 := fun g : Int32 → Mem → Option (Unit × Mem) => bcli (τ := wrow τ 300 S) (i := j) (p := 164 + 27 * j) 1 1 (by decide) hj (by decide) (by omega) g
      show (if (8 : Int32) ≤ nI j then _ else _) = _
      rw [if_neg (ge8 hj), b0, wrow_h, ← nI_succ]
      unfold stJ
      by_cases h1 : S (163 + 27 * j) = 1
      · obtain ⟨⟨c1, c2, c3⟩, _⟩ := cnt_in w1 (by omega) hj h1
        rw [if_pos h1, if_pos h1, b1, wrow_h]
        have hib : ib (S (164 + 27 * j)) 8 := by rw [c3]; exact ib_nI (by omega) (by decide)
        have hcl : (S (164 + 27 * j)).toNatClampNeg = (S (164 + 27 * j)).toInt.toNat := rfl
        rw [if_pos hib, hcl]
        simp only [Nat.reduceAdd]
        rw [r307]
        by_cases hF : τ 307 (S (164 + 27 * j)).toInt.toNat = 0
        · rw [if_pos hF, if_pos hF]
        · have hst := store_M (τ := wrow τ 300 S) (P := P) (j := j) (tS := tS) (tC := tN tC j) (b := b + j) (by rw [wrow_h]; exact w1) (by omega) (fun k => by have := ht k; unfold tN; split <;> omega) hj (by rw [wrow_h]; exact h1) (by rw [wrow_h]; exact hPn _ (by omega)) (by rw [wrow_h, r305]; exact hPP _ (by omega))
          rw [wrow_h, wrow_2] at hst
          rw [if_neg hF, if_neg hF, bd_eq hst]
      · rw [if_neg h1, if_neg h1]) 8 0 FU τ rfl (by decide) (by
      show τ = wrow τ 300 (τ 300)
      rw [wrow_id])
  exact e
