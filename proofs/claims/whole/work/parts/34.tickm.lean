/-! the reference's sensors in a tick -/
theorem rcvS_m {S : Nat → Int32} {i j : Nat} {st v : Int32} (h : j < 18 + 19 * i ∨ 30 + 19 * i ≤ j) : rcvS S i st v j = S j := by
  have hm : (S (21 + 19 * i)).toInt.toNat % 8 < 8 := Nat.mod_lt _ (by decide)
  unfold rcvS
  split
  · simp (disch := omega) only [upS_m]
  · simp (disch := omega) only [upS_m]
theorem quarter_s {x : Int32} {σ : Mem} : f_M_quarter x σ = some (qtrS x, σ) := by
  unfold f_M_quarter qtrS
  split <;> rfl
theorem phys_M {τ : Mem} {i : Nat} (hi : i < 8) (h2 : 0 ≤ gI (τ 300) 2 ∧ gI (τ 300) 2 ≤ 4) (hg : 0 ≤ gI (τ 300) (21 + 19 * i)) (hj : 0 ≤ gI (τ 300) (16 + 19 * i) ∧ gI (τ 300) (16 + 19 * i) ≤ 9) : f_M_tickPhysical 299 (nI i) τ = some ((), match physS (τ 300) (τ 305) i with | none => τ | some x => wrow (wrow τ 307 (upS (τ 307) i 1)) 300 (upS (rcvS (τ 300) i x.1 x.2) 5 (τ 300 5 + τ 300 (17 + 19 * i)))) := by
  have b7 := fun g : Int32 → Mem → Option (Unit × Mem) => bsen (τ := τ) (i := i) (p := 18 + 19 * i) 7 7 (by decide) hi (by decide) (by omega) g
  have b5 := fun g : Int32 → Mem → Option (Unit × Mem) => bsen (τ := τ) (i := i) (p := 16 + 19 * i) 5 5 (by decide) hi (by decide) (by omega) g
  have b8 := fun g : Int32 → Mem → Option (Unit × Mem) => bsen (τ := τ) (i := i) (p := 19 + 19 * i) 8 8 (by decide) hi (by decide) (by omega) g
  have b3 := fun g : Int32 → Mem → Option (Unit × Mem) => bsen (τ := τ) (i := i) (p := 14 + 19 * i) 3 3 (by decide) hi (by decide) (by omega) g
  have b4 := fun g : Int32 → Mem → Option (Unit × Mem) => bsen (τ := τ) (i := i) (p := 15 + 19 * i) 4 4 (by decide) hi (by decide) (by omega) g
  have b6 : ∀ st v, ∀ g : Int32 → Mem → Option (Unit × Mem), bd (f_M_sensor0 299 (nI i) 6 (wrow (wrow τ 307 (upS (τ 307) i 1)) 300 (rcvS (τ 300) i st v))) g = g (τ 300 (17 + 19 * i)) (wrow (wrow τ 307 (upS (τ 307) i 1)) 300 (rcvS (τ 300) i st v)) := fun st v g => by
    rw [bsen (p := 17 + 19 * i) 6 6 (by decide) hi (by decide) (by omega) g, wrow_h, rcvS_m (by omega)]
  have br : ∀ st v, ∀ g : Unit → Mem → Option (Unit × Mem), bd (f_M_receive 299 (nI i) st v τ) g = g () (wrow (wrow τ 307 (upS (τ 307) i 1)) 300 (rcvS (τ 300) i st v)) := fun st v => bd_eq (receive_M hi hg)
  have bo : ∀ t, ∀ g : Int32 → Mem → Option (Unit × Mem), bd (f_M_isOut 299 (nI i) t τ) g = g (outF (τ 300) i t (τ 300 2).toInt.toNat) τ := fun t => bd_eq (isOut_M h2)
  have bq : ∀ x, ∀ g : Int32 → Mem → Option (Unit × Mem), bd (f_M_quarter x τ) g = g (qtrS x) τ := fun x => bd_eq quarter_s
  have hib : ib (nI i) 8 := ib_nI hi (by decide)
  have hne : ¬ τ 300 (16 + 19 * i) + 1 = 0 := fun e => by
    unfold gI at hj
    have z1 : (1 : Int32).toInt = 1 := by decide
    rw [tE, tA (by rw [z1]; omega) (by rw [z1]; omega), z1, z0T] at e
    omega
  have r5 : ∀ st v, rcvS (τ 300) i st v 5 = τ 300 5 := fun st v => rcvS_m (by omega)
  unfold f_M_tickPhysical physS
  simp only [↓b7, ↓b5, ↓b8, ↓b3, ↓b4, ↓b6, ↓br, ↓bo, ↓bq, ↓lt_eq, if_true, hne, if_false, nI_clamp (show i < 2 ^ 31 by omega), Nat.reduceAdd, wrow_h, r5, wr_row, wrow_2]
  rw [if_pos hib]
  change (if timeS (τ 300) (τ 305) i + lateS (τ 300) i = τ 300 0 then _ else _) = _
  by_cases ht : timeS (τ 300) (τ 305) i + lateS (τ 300) i = τ 300 0
  · rw [if_pos ht, if_pos ht]
    change (if τ 300 (18 + 19 * i) = 0 then (if outF (τ 300) i (timeS (τ 300) (τ 305) i) (τ 300 2).toInt.toNat = 0 then _ else _) else (if outF (τ 300) i (timeS (τ 300) (τ 305) i) (τ 300 2).toInt.toNat = 0 then _ else _)) = _
    by_cases h0 : τ 300 (18 + 19 * i) = 0
    · have es : stampS (τ 300) (τ 305) i = τ 300 0 := if_pos h0
      rw [if_pos h0, es]
      by_cases ho : outF (τ 300) i (timeS (τ 300) (τ 305) i) (τ 300 2).toInt.toNat = 0
      · rw [if_pos ho, if_pos ho]; rfl
      · rw [if_neg ho, if_neg ho]
    · have es : stampS (τ 300) (τ 305) i = τ 300 (19 + 19 * i) + τ 305 i + qtrS (τ 300 0 - (τ 300 (19 + 19 * i) + τ 305 i)) := if_neg h0
      rw [if_neg h0, es]
      by_cases ho : outF (τ 300) i (timeS (τ 300) (τ 305) i) (τ 300 2).toInt.toNat = 0
      · rw [if_pos ho, if_pos ho]; rfl
      · rw [if_neg ho, if_neg ho]
  · rw [if_neg ht, if_neg ht]
theorem der_M {τ : Mem} {i : Nat} (hi : i < 8) (hW : WP (τ 300) i) (h4 : τ 300 (11 + 19 * i) ≠ 4) (hg : 0 ≤ gI (τ 300) (21 + 19 * i)) (hm : τ 307 (τ 300 (12 + 19 * i)).toInt.toNat ≠ 0 → τ 300 (20 + 19 * (τ 300 (12 + 19 * i)).toInt.toNat) ≠ -8 → 0 < gI (τ 300) (21 + 19 * (τ 300 (12 + 19 * i)).toInt.toNat)) : f_M_tickDerived 299 (nI i) τ = some ((), match derS (τ 300) (τ 307) i with | none => τ | some x => wrow (wrow τ 307 (upS (τ 307) i 1)) 300 (rcvS (τ 300) i x.1 x.2)) := by
  have n1 := WP_1n hW h4
  have l1 := WP_1 hW h4
  have hml : τ 300 (11 + 19 * i) = 3 → τ 300 (13 + 19 * i) = nI (τ 300 (13 + 19 * i)).toInt.toNat ∧ 1 ≤ (τ 300 (13 + 19 * i)).toInt.toNat ∧ (τ 300 (13 + 19 * i)).toInt.toNat ≤ 8 := fun h3 => by
    rcases hW with h | h
    · exact absurd h.1 h4
    · have := h.2.2.1 h3
      unfold gI at this
      exact ⟨toNI (by omega), by omega, by omega⟩
  have n2 := fun h3 => WP_2n hW h4 h3
  have l2 := fun h3 => WP_2 hW h4 h3
  have b1 := fun g : Int32 → Mem → Option (Unit × Mem) => bsen (τ := τ) (i := i) (p := 12 + 19 * i) 1 1 (by decide) hi (by decide) (by omega) g
  have b2 := fun g : Int32 → Mem → Option (Unit × Mem) => bsen (τ := τ) (i := i) (p := 13 + 19 * i) 2 2 (by decide) hi (by decide) (by omega) g
  have b0 := fun g : Int32 → Mem → Option (Unit × Mem) => bsen (τ := τ) (i := i) (p := 11 + 19 * i) 0 0 (by decide) hi (by decide) (by omega) g
  have br : ∀ st v, ∀ g : Unit → Mem → Option (Unit × Mem), bd (f_M_receive 299 (nI i) st v τ) g = g () (wrow (wrow τ 307 (upS (τ 307) i 1)) 300 (rcvS (τ 300) i st v)) := fun st v => bd_eq (receive_M hi hg)
  have hl : ∀ v, v = dvalS (τ 300) i → τ 307 (τ 300 (12 + 19 * i)).toInt.toNat ≠ 0 → some ((), wrow (wrow τ 307 (upS (τ 307) i 1)) 300 (rcvS (τ 300) i (τ 300 (19 + 19 * (τ 300 (12 + 19 * i)).toInt.toNat)) v)) = some ((), match derS (τ 300) (τ 307) i with | none => τ | some x => wrow (wrow τ 307 (upS (τ 307) i 1)) 300 (rcvS (τ 300) i x.1 x.2)) := fun v hv hF => by
    unfold derS
    simp only [if_neg hF]
    rw [hv]
  unfold f_M_tickDerived
  rw [b1, b2, b0]
  unfold dvalS at hl
  by_cases hF : τ 307 (τ 300 (12 + 19 * i)).toInt.toNat = 0
  · have hd : derS (τ 300) (τ 307) i = none := if_pos hF
    rw [hd, n1, if_pos (ib_nI (by omega) (by decide)), nI_clamp (by omega)]
    simp only [Nat.reduceAdd]
    rw [if_pos hF]
  · have hl2 := fun v hv => hl v hv hF
    have hm2 := hm hF
    clear hl hm
    generalize hf : (τ 300 (12 + 19 * i)).toInt.toNat = f at *
    have c9 := fun g : Int32 → Mem → Option (Unit × Mem) => bsen (τ := τ) (i := f) (p := 20 + 19 * f) 9 9 (by decide) (by omega) (by decide) (by omega) g
    have c8 := fun g : Int32 → Mem → Option (Unit × Mem) => bsen (τ := τ) (i := f) (p := 19 + 19 * f) 8 8 (by decide) (by omega) (by decide) (by omega) g
    rw [n1, if_pos (ib_nI (by omega) (by decide)), nI_clamp (by omega)]
    simp only [Nat.reduceAdd]
    rw [if_neg hF, c9]
    by_cases hx : τ 300 (20 + 19 * f) = -8
    · rw [if_pos hx] at hl2
      by_cases h3 : τ 300 (11 + 19 * i) = 3
      · rw [if_pos h3, if_pos hx, c8, br]
        exact hl2 _ rfl
      · rw [if_neg h3, if_pos hx, c8, br]
        exact hl2 _ rfl
    · rw [if_neg hx] at hl2
      have hg1 := hm2 hx
      by_cases h3 : τ 300 (11 + 19 * i) = 3
      · rw [if_pos h3] at hl2
        obtain ⟨m1, m2, m3⟩ := hml h3
        have hmm := mean_M (τ := τ) (i := f) (l := (τ 300 (13 + 19 * i)).toInt.toNat) (by omega) ⟨m2, m3⟩ (by omega)
        rw [← m1] at hmm
        rw [if_pos h3, if_neg hx, bd_eq hmm, c8, br]
        exact hl2 _ rfl
      · rw [if_neg h3] at hl2
        have n2' := n2 h3
        have l2' := l2 h3
        generalize hgq : (τ 300 (13 + 19 * i)).toInt.toNat = q at *
        have d7 := fun g : Int32 → Mem → Option (Unit × Mem) => bsen (τ := τ) (i := q) (p := 18 + 19 * q) 7 7 (by decide) (by omega) (by decide) (by omega) g
        have d9 := fun g : Int32 → Mem → Option (Unit × Mem) => bsen (τ := τ) (i := q) (p := 20 + 19 * q) 9 9 (by decide) (by omega) (by decide) (by omega) g
        rw [if_neg h3, if_neg hx, n2', d7]
        by_cases h7 : τ 300 (18 + 19 * q) ≤ 0
        · rw [if_pos h7] at hl2
          rw [if_pos h7, c8, br]
          exact hl2 _ rfl
        · rw [if_neg h7] at hl2
          rw [if_neg h7, d9]
          by_cases hy : τ 300 (20 + 19 * q) = -8
          · rw [if_pos hy] at hl2
            rw [if_pos hy, c8, br]
            exact hl2 _ rfl
          · rw [if_neg hy] at hl2
            rw [if_neg hy, d9]
            by_cases k0 : τ 300 (11 + 19 * i) = 0
            · rw [if_pos k0] at hl2
              rw [if_pos k0, lt_eq, c8, br]
              exact hl2 _ rfl
            · rw [if_neg k0] at hl2
              rw [if_neg k0]
              by_cases k1 : τ 300 (11 + 19 * i) = 1
              · rw [if_pos k1] at hl2
                rw [if_pos k1, lt_eq, c8, br]
                exact hl2 _ rfl
              · rw [if_neg k1] at hl2
                rw [if_neg k1]
                by_cases hc : τ 300 (20 + 19 * f) ≤ τ 300 (20 + 19 * q)
                · rw [if_pos hc] at hl2
                  rw [if_pos hc, c8, br]
                  exact hl2 _ rfl
                · rw [if_neg hc] at hl2
                  rw [if_neg hc, c8, br]
                  exact hl2 _ rfl
