/-! a sensor's step in a tick: the class -/
theorem meas_X {σ : Mem} {q i : Nat} {S P : Nat → Int32} {tS tC : Nat → Int} {b : Int} (hW : WX S tS tC b) (hi : i < nS S) (ht : tS i + 1 ≤ gI S 0) (h4 : S (11 + 19 * i) = 4) (hR : RH σ q S) (hP : P i = pd S i) (hp : 1 ≤ (P i).toInt ∧ (P i).toInt ≤ 400) : (physS S P i = none → f_Hub_measure q (nI i) (q + 2 + (8 + 2 * i)) σ = some ((), σ)) ∧ ∀ x, physS S P i = some x → ∃ σ', f_Hub_measure q (nI i) (q + 2 + (8 + 2 * i)) σ = some ((), σ') ∧ RH σ' q (upS (rcvS S i x.1 x.2) 5 (S 5 + S (17 + 19 * i))) ∧ σ' (q + 2 + (8 + 2 * i)) 13 = 1 ∧ (∀ w, w ≠ q → w ≠ q + 2 + (8 + 2 * i) → w ≠ q + 2 + (8 + 2 * i) + 1 → σ' w = σ w) ∧ ∀ k, k ≠ 2 → σ' q k = σ q k := by
  have h8 := nS_le hW.1
  have hWR := (hW.2.1 i hi).2
  have hn := hW.1.1
  have h6 := hW.1.2.1
  have h2 := hW.1.2.2.2.1
  have hs := hWR.1
  have hph : (0 ≤ gI S (14 + 19 * i) ∧ gI S (14 + 19 * i) ≤ 99) ∧ (0 ≤ gI S (15 + 19 * i) ∧ gI S (15 + 19 * i) ≤ 999) ∧ (0 ≤ gI S (16 + 19 * i) ∧ gI S (16 + 19 * i) ≤ 9) := by
    rcases (hW.2.1 i hi).1 with h | h
    · exact ⟨h.2.2.2.1, h.2.2.2.2.1, h.2.2.2.2.2.1⟩
    · unfold gI at h
      rw [h4] at h
      exact absurd h.1.2 (by decide)
  obtain ⟨hRP, hRR, hRD⟩ := hR.2.2.2.1 i hi
  obtain ⟨q0, qp, _⟩ := hRP
  obtain ⟨p1, p2, p3, p4, p5, p6⟩ := qp h4
  have g0 := hR.1.1
  have g1 := hR.1.2.1
  have g2 := hR.1.2.2.1
  have a11 : σ (q + 2 + (8 + 2 * i)) 11 = P i := by rw [hRD.2, hP]
  have hlate := fun τ : Mem => late_X (σ := τ) (S := S) (i := i) (by omega) hph.2.2 (by omega)
  unfold f_Hub_measure
  rw [lt_eq, g1, hRR.1, a11, p5, bd_eq (hlate σ).1]
  change (_ → (if timeS S P i + lateS S i = σ q 0 then _ else _) = _) ∧ ∀ x, _ → ∃ σ', (if timeS S P i + lateS S i = σ q 0 then _ else _) = _ ∧ _
  rw [g0]
  constructor
  · intro hx
    have hc : ¬ timeS S P i + lateS S i = S 0 := fun h => by
      unfold physS at hx
      rw [if_pos h] at hx
      exact absurd hx (by simp)
    rw [if_neg hc]
  · intro x hx
    have hin := phys_in hW.1 (hW.2.1 i hi).1 hWR ht h4 hp (by omega) hx
    have hx0 := hx
    unfold physS at hx
    by_cases hc : timeS S P i + lateS S i = S 0
    · rw [if_pos hc] at hx
      have hx := (Option.some.inj hx).symm
      rw [if_pos hc, lt_eq, g2, p6]
      have hO : RO (wr σ q 2 (S 5 + S (17 + 19 * i))) q S := by
        have := hR.2.1
        unfold RO at this ⊢
        rw [wr_other (by omega), wr_other (by omega), wr_other (by omega), wr_other (by omega)]
        exact this
      have cc : wr σ q 2 (S 5 + S (17 + 19 * i)) (q + 2 + (8 + 2 * i)) = σ (q + 2 + (8 + 2 * i)) := wr_other (by omega)
      have q00 : wr σ q 2 (S 5 + S (17 + 19 * i)) q 0 = S 0 := by rw [wr_m (by omega), g0]
      have hst := stamp_X (σ := wr σ q 2 (S 5 + S (17 + 19 * i))) (c := q + 2 + (8 + 2 * i)) hn hWR ht h4 hp (by rw [cc]; exact hRR.1) (fun h => by rw [cc]; exact (hRR.2.1 h).1) (by rw [cc]; exact a11)
      have hvl := (value_X (σ := wr σ q 2 (S 5 + S (17 + 19 * i))) (c := q + 2 + (8 + 2 * i)) (u := timeS S P i) hph.1 hph.2.1 hin.2.2 (by rw [cc]; exact p3) (by rw [cc]; exact p4)).1
      rw [show S 6 + (S (18 + 19 * i) + 1) * P i = timeS S P i from rfl, bd_eq (cover_X hO h2)]
      obtain ⟨σ', ha, hb⟩ := acc_RH (st := x.1) (v := x.2) (x := S 5 + S (17 + 19 * i)) hW (by omega) hi hR
      refine ⟨σ', ?_, hb⟩
      by_cases ho : outF S i (timeS S P i) (S 2).toInt.toNat = 0
      · rw [if_pos ho] at hx ⊢
        rw [hx] at ha
        rw [bd_eq hvl, q00, bd_eq hst, bd_eq ha]
      · rw [if_neg ho] at hx ⊢
        rw [hx] at ha
        rw [q00, bd_eq hst, bd_eq ha]
    · rw [if_neg hc] at hx
      exact absurd hx (by simp)
theorem comp_X {σ : Mem} {q i : Nat} {S : Nat → Int32} {uS uC : Nat → Int} {b : Int} (hW : WX S uS uC b) (hi : i < nS S) (h4 : S (11 + 19 * i) ≠ 4) (hR : RH σ q S) (hsf : 0 < gI S (18 + 19 * (S (12 + 19 * i)).toInt.toNat)) : f_Hub_computedValue q (q + 2 + (8 + 2 * i)) (q + 2 + (8 + 2 * (S (12 + 19 * i)).toInt.toNat)) σ = some (dvalS S i, σ) := by
  have h8 := nS_le hW.1
  have hin := in_f hW hi h4
  have hPi := (hW.2.1 i hi).1
  have hml : S (11 + 19 * i) = 3 → S (13 + 19 * i) = nI (S (13 + 19 * i)).toInt.toNat ∧ 1 ≤ (S (13 + 19 * i)).toInt.toNat ∧ (S (13 + 19 * i)).toInt.toNat ≤ 8 := fun h3 => by
    rcases hPi with h | h
    · exact absurd h.1 h4
    · have := h.2.2.1 h3
      unfold gI at this
      exact ⟨toNI (by omega), by omega, by omega⟩
  obtain ⟨⟨q0, _, qd, _⟩, _, _⟩ := hR.2.2.2.1 i hi
  obtain ⟨_, a8⟩ := qd h4
  have h4q : σ q 4 = S 1 := hR.1.2.2.2.2.1
  have hn1 := hW.1.2.2.1
  have hWf := (hW.2.1 (S (12 + 19 * i)).toInt.toNat (by omega)).2
  have hRf := (hR.2.2.2.1 (S (12 + 19 * i)).toInt.toNat (by omega)).2.1
  have hg := hin.2.2
  unfold dvalS
  generalize (S (12 + 19 * i)).toInt.toNat = f at *
  simp only []
  have f15 : σ (q + 2 + (8 + 2 * f)) 15 = S (20 + 19 * f) := (hRf.2.1 hsf).2
  unfold f_Hub_computedValue
  rw [f15]
  by_cases hx : S (20 + 19 * f) = -8
  · rw [if_pos hx, if_pos hx]
  · have hg1 := hWf.2.2.2.2.2 hsf hx
    have hxv : 0 ≤ (S (20 + 19 * f)).toInt ∧ (S (20 + 19 * f)).toInt ≤ 999 := by
      rcases hWf.2.2.1 with h | h
      · exact absurd h hx
      · exact h
    rw [if_neg hx, if_neg hx, q0, a8]
    by_cases h3 : S (11 + 19 * i) = 3
    · obtain ⟨m1, m2, m3⟩ := hml h3
      have hm := mean_X (σ := σ) (c := q + 2 + (8 + 2 * f)) (i := f) (l := (S (13 + 19 * i)).toInt.toNat) ⟨m2, m3⟩ (by omega) hRf.2.2.1 hRf.2.2.2
      rw [← m1] at hm
      rw [if_pos h3, if_pos h3, bd_eq hm]
    · obtain ⟨g1, g2⟩ := hg h3
      have hWg := (hW.2.1 (S (13 + 19 * i)).toInt.toNat (by omega)).2
      have hRg := (hR.2.2.2.1 (S (13 + 19 * i)).toInt.toNat (by omega)).2.1
      have hsa : f_Hub_sensorAt q (S (13 + 19 * i)) σ = some (some (q + 2 + (8 + 2 * (S (13 + 19 * i)).toInt.toNat)), σ) := by
        rw [sensorAt_s (by rw [h4q]; exact hn1.2), if_pos]
        rw [h4q]
        unfold nS at hi
        unfold gI at hn1
        have hi2 : (S (13 + 19 * i)).toInt = ((S (13 + 19 * i)).toInt.toNat : Int) := by
          have := congrArg Int32.toInt g2
          rw [nI_toInt (by omega)] at this
          exact this
        omega
      rw [if_neg h3, if_neg h3, bd_eq hsa, oe_some]
      generalize (S (13 + 19 * i)).toInt.toNat = g at *
      have hs0 := hWg.1.1
      rw [hRg.1]
      by_cases h7 : S (18 + 19 * g) ≤ 0
      · rw [if_pos h7, if_pos]
        rw [Int32.le_iff_toInt_le, z0T] at h7
        unfold gI at hs0
        rw [tE, z0T]
        omega
      · have h70 : ¬ S (18 + 19 * g) = 0 := fun e => h7 (by rw [e]; exact Int32.le_refl _)
        have h7p : 0 < gI S (18 + 19 * g) := by
          rw [Int32.le_iff_toInt_le, z0T] at h7
          unfold gI
          omega
        have g15 : σ (q + 2 + (8 + 2 * g)) 15 = S (20 + 19 * g) := (hRg.2.1 h7p).2
        rw [if_neg h7, if_neg h70, g15]
        by_cases hy : S (20 + 19 * g) = -8
        · rw [if_pos hy, if_pos hy]
        · have hyv : 0 ≤ (S (20 + 19 * g)).toInt ∧ (S (20 + 19 * g)).toInt ≤ 999 := by
            rcases hWg.2.2.1 with h | h
            · exact absurd h hy
            · exact h
          rw [if_neg hy, if_neg hy, q0, f15]
          by_cases k0 : S (11 + 19 * i) = 0
          · have e : (S (20 + 19 * f) + S (20 + 19 * g)).toInt = (S (20 + 19 * f)).toInt + (S (20 + 19 * g)).toInt := tA (by omega) (by omega)
            rw [if_pos k0, if_pos k0, bd_eq (rem_fm (by rw [e]; omega) (by rw [i1000]; decide))]
          · rw [if_neg k0, if_neg k0]
            by_cases k1 : S (11 + 19 * i) = 1
            · have e1 : (S (20 + 19 * f) - S (20 + 19 * g)).toInt = (S (20 + 19 * f)).toInt - (S (20 + 19 * g)).toInt := tS (by omega) (by omega)
              have e : (S (20 + 19 * f) - S (20 + 19 * g) + 1000).toInt = (S (20 + 19 * f)).toInt - (S (20 + 19 * g)).toInt + 1000 := by rw [tA (by rw [e1, i1000]; omega) (by rw [e1, i1000]; omega), e1, i1000]
              have e2 : Int32.ofInt ((S (20 + 19 * f) - S (20 + 19 * g)).toInt % (1000 : Int32).toInt) = (S (20 + 19 * f) - S (20 + 19 * g) + 1000) - (S (20 + 19 * f) - S (20 + 19 * g) + 1000) / 1000 * 1000 := by
                rw [tE, rem_in (by rw [e]; omega) (by rw [i1000]; decide), e, e1, i1000, tO (by omega) (by omega)]
                omega
              rw [if_pos k1, if_pos k1, bd_eq (fmod_s (by rw [i1000]; decide)), e2]
            · rw [if_neg k1, if_neg k1, bd_eq max_s]
              by_cases hl : S (20 + 19 * f) ≤ S (20 + 19 * g)
              · rw [if_pos hl]
                by_cases hl2 : S (20 + 19 * f) < S (20 + 19 * g)
                · rw [if_pos hl2]
                · rw [if_neg hl2]
                  have : S (20 + 19 * f) = S (20 + 19 * g) := by
                    rw [Int32.lt_iff_toInt_lt] at hl2
                    rw [Int32.le_iff_toInt_le] at hl
                    rw [tE]; omega
                  rw [this]
              · rw [if_neg hl, if_neg (fun h => hl (by rw [Int32.lt_iff_toInt_lt] at h; rw [Int32.le_iff_toInt_le]; omega))]
