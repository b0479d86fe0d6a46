/-! tightestClient -/
def dlyS (S : Nat → Int32) (j : Nat) : Nat → Int32 := upS S (166 + 27 * j) 400
theorem i400T : (400 : Int32).toInt = 400 := by decide
theorem dly_W {S : Nat → Int32} {tS tC : Nat → Int} {b : Int} (hW : WX S tS tC b) {j : Nat} (hj : j < 8) : WX (dlyS S j) tS tC b := by
  have h8 := nS_le hW.1
  have hm : ∀ p, p ≠ 166 + 27 * j → dlyS S j p = S p := fun p hp => upS_m hp
  have gm : ∀ p, p ≠ 166 + 27 * j → gI (dlyS S j) p = gI S p := fun p hp => congrArg Int32.toInt (hm p hp)
  have hcf : cfE S (dlyS S j) := fun p hp => hm p (by rcases hp with h | h | h <;> omega)
  refine ⟨?_, fun i hi => ?_, fun k hk => ?_, fun e he => ?_⟩
  · unfold WG
    rw [gm 0 (by omega), gm 6 (by omega), gm 1 (by omega), gm 2 (by omega), gm 3 (by omega), gm 4 (by omega), gm 7 (by omega), gm 8 (by omega), gm 9 (by omega), gm 10 (by omega)]
    exact hW.1
  · rw [cfE_n hcf] at hi
    obtain ⟨h1, h2⟩ := hW.2.1 i hi
    exact ⟨WP_cong (fun p _ _ => hm p (by omega)) h1, WR_cong (hm 0 (by omega)) (fun p _ _ => hm p (by omega)) h2⟩
  · have hk2 := hW.2.2.1 k hk
    by_cases e : k = j
    · subst e
      rcases hk2 with h | h
      · left
        rw [hm _ (by omega)]
        exact h
      · right
        have hl := WX_cl hW k hk h.1
        have e6 : gI (dlyS S k) (166 + 27 * k) = 400 := by
          unfold gI dlyS
          rw [upS_h rfl, i400T]
        obtain ⟨d0, d1, d2, d3, d4, d5, d6, d7⟩ := h
        rw [e6, gm 1 (by omega), gm 3 (by omega), gm (164 + 27 * k) (by omega), gm (165 + 27 * k) (by omega), gm (167 + 27 * k) (by omega), gm (168 + 27 * k) (by omega), gm (170 + 27 * k) (by omega), hm (163 + 27 * k) (by omega), hm (164 + 27 * k) (by omega), hm (168 + 27 * k) (by omega), hm (170 + 27 * k) (by omega), lst_c hcf (CW_of hW) hl]
        exact ⟨d0, d1, d2, by omega, d4, d5, d6, d7⟩
    · exact WC_cong hk hcf (CW_of hW) (WX_cl hW k hk) (hm 3 (by omega)) (fun p _ _ => hm p (by omega)) hk2
  · rw [gm 3 (by omega)] at he
    have hE := hW.2.2.2 e he
    have h3 := hW.1.2.2.2.2.1
    unfold WE gI at hE ⊢
    rw [hm (391 + 3 * e) (by omega), hm (392 + 3 * e) (by omega), hm (163 + 27 * (S (391 + 3 * e)).toInt.toNat) (by omega)]
    exact hE
theorem dly_RH {σ : Mem} {q j : Nat} {S : Nat → Int32} {tS tC : Nat → Int} {b : Int} (hW : WX S tS tC b) (hj : j < 8) (hR : RH σ q S) : RH (wr σ (q + 3 + (23 + 2 * j)) 3 400) q (dlyS S j) := by
  have h8 := nS_le hW.1
  have hCW := CW_of hW
  have hm : ∀ p, p ≠ 166 + 27 * j → dlyS S j p = S p := fun p hp => upS_m hp
  have hcf : cfE S (dlyS S j) := fun p hp => hm p (by rcases hp with h | h | h <;> omega)
  have hc := (hR.2.2.2.2 j hj).1
  have hR0 : R0 (wr σ (q + 3 + (23 + 2 * j)) 3 400) q (dlyS S j) := cli_R0 hW hj (fun p hp => hm p (by omega)) hR (fun w h1 h2 => wr_other h1) (by
    rw [wr_other (show q + 3 + (23 + 2 * j) + 1 ≠ q + 3 + (23 + 2 * j) by omega)]
    unfold RC at hc ⊢
    unfold gI at hc ⊢
    rw [wr_m (by omega), wr_m (by omega), wr_m (by omega), wr_h rfl rfl, wr_m (by omega), wr_m (by omega), wr_m (by omega), wr_m (by omega), wr_m (by omega), hm (163 + 27 * j) (by omega), hm (164 + 27 * j) (by omega), hm (165 + 27 * j) (by omega), show dlyS S j (166 + 27 * j) = 400 from upS_h rfl, hm (167 + 27 * j) (by omega), hm (168 + 27 * j) (by omega), hm (169 + 27 * j) (by omega), hm (170 + 27 * j) (by omega), hm (171 + 27 * j) (by omega)]
    refine ⟨hc.1, fun h1 => ?_⟩
    obtain ⟨⟨a1, a2, a3, a5, a6, a7, a9, a8⟩, al⟩ := hc.2 h1
    refine ⟨⟨a1, a2, rfl, a5, a6, a7, a9, a8⟩, fun d p hd hdD hp => ?_⟩
    rw [hm (172 + 27 * j + 3 * d + p) (by omega)]
    exact al d p hd hdD hp)
  refine R0_RH hR0 (fun i hi => ?_) (fun k hk => ?_)
  · rw [cfE_n hcf] at hi
    have hD := (hR.2.2.2.1 i hi).2.2
    rw [wr_other (by omega)]
    unfold RD at hD ⊢
    rw [dm_c hcf hCW, pd_c hcf hCW hi]
    exact hD
  · intro h1
    rw [hm _ (by omega)] at h1
    have hl := WX_cl hW k hk h1
    have h0 := (hR.2.2.2.2 k hk).2 h1
    unfold gI at h0 ⊢
    rw [hm (164 + 27 * k) (by omega), hm (165 + 27 * k) (by omega), pd_c hcf hCW hl, wr_m (by omega)]
    exact h0
theorem aw_in {S : Nat → Int32} {tS tC : Nat → Int} {b : Int} (hW : WX S tS tC b) (hb : b ≤ 100000) : (awS S).toInt = gI S 7 + gI S 8 + gI S 9 + gI S 10 ∧ 0 ≤ (awS S).toInt ∧ (awS S).toInt ≤ 100000 := by
  have h := hW.1.2.2.2.2.2.2
  have h3 := hW.1.2.2.2.2.1
  unfold awS
  unfold gI at *
  have e1 : (S 7 + S 8).toInt = (S 7).toInt + (S 8).toInt := tA (by omega) (by omega)
  have e2 : (S 7 + S 8 + S 9).toInt = (S 7).toInt + (S 8).toInt + (S 9).toInt := by rw [tA (by rw [e1]; omega) (by rw [e1]; omega), e1]
  have e3 : (S 7 + S 8 + S 9 + S 10).toInt = (S 7).toInt + (S 8).toInt + (S 9).toInt + (S 10).toInt := by rw [tA (by rw [e2]; omega) (by rw [e2]; omega), e2]
  rw [e3]
  exact ⟨rfl, by omega, by omega⟩
/-- a row that the reference may have behind its release -/
def lkS (S R : Nat → Int32) : Prop := ∀ k, k < 481 → R k = S k
def tgP (n k : Nat) (W : (Nat → Int32) × (Nat → Int32)) : (Nat → Int32) × (Nat → Int32) := passN (pd (dlyS W.1 k)) (dlyS W.1 k, W.2) n
def tgW (S H : Nat → Int32) (n : Nat) (w0 : (Nat → Int32) × (Nat → Int32)) : Nat → (Nat → Int32) × (Nat → Int32)
  | 0 => w0
  | k + 1 => if S (163 + 27 * k) = 1 then (hoR H (tgP n k (tgW S H n w0 k)).1, (tgP n k (tgW S H n w0 k)).2) else tgW S H n w0 k
def tgB (S H : Nat → Int32) (n : Nat) (w0 : (Nat → Int32) × (Nat → Int32)) (f0 : Int32) : Nat → Int32 × Int32
  | 0 => (f0, -9)
  | k + 1 => if S (163 + 27 * k) = 1 then (if (tgB S H n w0 f0 k).1 ≤ awS (tgP n k (tgW S H n w0 k)).1 then tgB S H n w0 f0 k else (awS (tgP n k (tgW S H n w0 k)).1, nI k)) else tgB S H n w0 f0 k
theorem tgW_lk {S H : Nat → Int32} {n : Nat} {w0 : (Nat → Int32) × (Nat → Int32)} (hH : lkS S H) (h0 : lkS S w0.1) : ∀ k, lkS S (tgW S H n w0 k).1 := by
  intro k
  induction k with
  | zero => exact h0
  | succ k ih =>
    show lkS S (if S (163 + 27 * k) = 1 then (hoR H (tgP n k (tgW S H n w0 k)).1, (tgP n k (tgW S H n w0 k)).2) else tgW S H n w0 k).1
    by_cases h : S (163 + 27 * k) = 1
    · rw [if_pos h]
      intro p hp
      show (if p < 481 then H p else _) = S p
      rw [if_pos hp]
      exact hH p hp
    · rw [if_neg h]; exact ih
theorem tgP_W {S R F : Nat → Int32} {n k : Nat} (hW : WF S) (hn : gI S 0 + n ≤ 10499) (hl : lkS S R) (hk : k < 8) : WF (dlyS R k) ∧ gI (dlyS R k) 0 = gI S 0 ∧ WF (tgP n k (R, F)).1 ∧ gI (tgP n k (R, F)).1 0 = gI S 0 + n := by
  have hWR := WF_congS hl hW
  have g0 : gI R 0 = gI S 0 := congrArg Int32.toInt (hl 0 (by omega))
  have gd : gI (dlyS R k) 0 = gI S 0 := by rw [← g0]; exact congrArg Int32.toInt (upS_m (by omega))
  have hWd : WF (dlyS R k) := by
    unfold WF
    rw [gd, ← g0]
    exact dly_W hWR hk
  obtain ⟨p1, p2, p3, p4⟩ := pass_W (F := F) (P := pd (dlyS R k)) hWd (fun _ _ => rfl) n (by rw [gd]; exact hn)
  exact ⟨hWd, gd, p1, by rw [← gd]; exact p3⟩
theorem tgB_in {S H : Nat → Int32} {n : Nat} {w0 : (Nat → Int32) × (Nat → Int32)} {f0 : Int32} (hW : WF S) (hn : gI S 0 + n ≤ 10499) (hH : lkS S H) (h0 : lkS S w0.1) (hf : 0 ≤ f0.toInt ∧ f0.toInt ≤ 100000) : ∀ k, k ≤ 8 → 0 ≤ (tgB S H n w0 f0 k).1.toInt ∧ (tgB S H n w0 f0 k).1.toInt ≤ 100000 := by
  intro k
  induction k with
  | zero => intro _; exact hf
  | succ k ih =>
    intro hk
    have h1 := ih (by omega)
    have hw := tgP_W (F := (tgW S H n w0 k).2) (n := n) hW hn (tgW_lk (n := n) hH h0 k) (show k < 8 by omega)
    have ha := aw_in hw.2.2.1 (by have := hw.2.2.2; omega)
    show 0 ≤ (if S (163 + 27 * k) = 1 then (if (tgB S H n w0 f0 k).1 ≤ awS (tgP n k (tgW S H n w0 k)).1 then tgB S H n w0 f0 k else (awS (tgP n k (tgW S H n w0 k)).1, nI k)) else tgB S H n w0 f0 k).1.toInt ∧ (if S (163 + 27 * k) = 1 then (if (tgB S H n w0 f0 k).1 ≤ awS (tgP n k (tgW S H n w0 k)).1 then tgB S H n w0 f0 k else (awS (tgP n k (tgW S H n w0 k)).1, nI k)) else tgB S H n w0 f0 k).1.toInt ≤ 100000
    by_cases h : S (163 + 27 * k) = 1
    · rw [if_pos h]
      by_cases hc : (tgB S H n w0 f0 k).1 ≤ awS (tgP n k (tgW S H n w0 k)).1
      · rw [if_pos hc]; exact h1
      · rw [if_neg hc]; exact ⟨ha.2.1, ha.2.2⟩
    · rw [if_neg h]; exact h1
theorem tig_X {σ : Mem} {H : Nat → Int32} {n : Nat} {w0 : (Nat → Int32) × (Nat → Int32)} {f0 : Int32} (hW : WF (σ 300)) (hR : RH σ 1 (σ 300)) (hB1 : FBq σ 1) (hn : gI (σ 300) 0 + n ≤ 10499) (hn5 : n ≤ 500) (hH : lkS (σ 300) H) (h0 : lkS (σ 300) w0.1) {τ : Mem} (hτ : ∀ w, (w < 43 ∨ 85 ≤ w) → τ w = σ w) (hτB : FBq τ 43) : ∃ σ', L_X_tightestClient_46 0 (nI n) (fun z21 σ22 => some (z21, σ22)) FU f0 (-9) (0 : Int32) τ = some ((tgB (σ 300) H n w0 f0 8).2, σ') ∧ (∀ w, (w < 43 ∨ 85 ≤ w) → σ' w = σ w) ∧ FBq σ' 43 := by
  have h8 := nS_le hW.1
  obtain ⟨a, σ', e, ha, i1, i2⟩ := loopA (fun m (a : Int32 × Int32) x τ => L_X_tightestClient_46 0 (nI n) (fun z21 σ22 => some (z21, σ22)) m a.1 a.2 x τ) (fun a σ22 => some (a.2, σ22)) 8 (fun k a τ => a = tgB (σ 300) H n w0 f0 k ∧ (∀ w, (w < 43 ∨ 85 ≤ w) → τ w = σ w) ∧ FBq τ 43)
    (fun m a τ _ => by show (if (8 : Int32) ≤ nI 8 then _ else _) = _; rw [if_pos (by decide)])
    (fun m k a τ hk hI => by
      obtain ⟨ha, i1, i2⟩ := hI
      have hR1 : RH τ 1 (σ 300) := RH_cong h8 (fun w h1 h2 => i1 w (by omega)) hR
      have hB : FBq τ 1 := FBq_cong (fun w h1 h2 => i1 w (by omega)) hB1
      obtain ⟨τ1, e1, c1, c2⟩ := copy_X (σ := τ) (q := 43) (q1 := 1) (by omega) hB (RH_pres hW hR1)
      have hR2 := CP_RH hW.1 c2 hR1
      have hB2 := CP_FB c2 hB
      have hc := (hR2.2.2.2.2 k hk).1
      have hst : tgB (σ 300) H n w0 f0 (k + 1) = if σ 300 (163 + 27 * k) = 1 then (if (tgB (σ 300) H n w0 f0 k).1 ≤ awS (tgP n k (tgW (σ 300) H n w0 k)).1 then tgB (σ 300) H n w0 f0 k else (awS (tgP n k (tgW (σ 300) H n w0 k)).1, nI k)) else tgB (σ 300) H n w0 f0 k := rfl
      show ∃ a' σ', (if (8 : Int32) ≤ nI k then _ else _) = _ ∧ _
      rw [if_neg (ge8 hk)]
      simp only [Nat.zero_add]
      rw [bd_eq e1, bd_eq (clientAt_s k (nI_toInt (by omega)) hk), hc.1, ← nI_succ]
      by_cases h1 : σ 300 (163 + 27 * k) = 1
      · have hl := tgW_lk (n := n) hH h0 k
        have hW2 := WF_congS hl hW
        obtain ⟨q1, q2, q3, q4⟩ := tgP_W (F := (tgW (σ 300) H n w0 k).2) (n := n) hW hn hl hk
        have hR3 := dly_RH hW2 hk (RH_congS hl hW hR2)
        obtain ⟨τ2, e2, r2, m2, w2, b2⟩ := run_X (F := (tgW (σ 300) H n w0 k).2) (P := pd (dlyS (tgW (σ 300) H n w0 k).1 k)) (n := n) q1 (fun _ _ => rfl) (by rw [q2]; exact hn) hn5 hR3
        have haw := aw_X r2.1
        have hfr : ∀ w, (w < 43 ∨ 85 ≤ w) → τ2 w = σ w := fun w hw => by rw [w2 w (by omega), wr_other (by omega), c1 w (by omega), i1 w hw]
        have hfb : FBq τ2 43 := b2 (fun i hi => by rw [wr_other (by omega)]; exact hB2 i hi)
        rw [if_pos h1] at hst
        rw [if_neg (by rw [h1]; decide), oe_some, lt_eq, bd_eq e2, bd_eq haw]
        subst ha
        by_cases hc2 : (tgB (σ 300) H n w0 f0 k).1 ≤ awS (tgP n k (tgW (σ 300) H n w0 k)).1
        · rw [if_pos hc2] at hst
          refine ⟨tgB (σ 300) H n w0 f0 k, τ2, ?_, hst.symm, hfr, hfb⟩
          rw [if_pos (show (tgB (σ 300) H n w0 f0 k).1 ≤ awS (passN (pd (dlyS (tgW (σ 300) H n w0 k).1 k)) (dlyS (tgW (σ 300) H n w0 k).1 k, (tgW (σ 300) H n w0 k).2) n).1 from hc2)]
        · rw [if_neg hc2] at hst
          refine ⟨(awS (tgP n k (tgW (σ 300) H n w0 k)).1, nI k), τ2, ?_, hst.symm, hfr, hfb⟩
          rw [if_neg (show ¬ (tgB (σ 300) H n w0 f0 k).1 ≤ awS (passN (pd (dlyS (tgW (σ 300) H n w0 k).1 k)) (dlyS (tgW (σ 300) H n w0 k).1 k, (tgW (σ 300) H n w0 k).2) n).1 from hc2), bd_eq haw]
          rfl
      · have h00 : σ 300 (163 + 27 * k) = 0 := by
          rcases hW.2.2.1 k hk with h | h
          · exact h
          · exact absurd h.1 h1
        rw [if_neg h1] at hst
        rw [if_pos h00, oe_none]
        exact ⟨a, τ1, rfl, by rw [hst]; exact ha, fun w hw => by rw [c1 w (by omega), i1 w hw], hB2⟩) 8 0 FU (f0, -9) τ rfl (by decide) ⟨rfl, hτ, hτB⟩
  refine ⟨σ', ?_, i1, i2⟩
  rw [← ha]
  exact e
