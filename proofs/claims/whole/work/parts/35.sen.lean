/-! what holds of the row behind a sample -/
theorem WC_cong {S S' : Nat → Int32} {j : Nat} {t b : Int} (hj : j < 8) (hcf : cfE S S') (hW : CW S) (hC : S (163 + 27 * j) = 1 → (S (164 + 27 * j)).toInt.toNat < nS S) (h3 : S' 3 = S 3) (h : ∀ p, 166 + 27 * j ≤ p → p < 171 + 27 * j → S' p = S p) (hw : WC S j t b) : WC S' j t b := by
  have hcc : ∀ p k, k < 3 → p = 163 + 27 * j + k → S' p = S p := fun p k hk hp => cf_c hcf hj hk hp
  rcases hw with h0 | h0
  · left
    rw [hcc (163 + 27 * j) 0 (by omega) (by omega)]
    exact h0
  · right
    unfold gI at h0 ⊢
    rw [hcc (163 + 27 * j) 0 (by omega) (by omega), hcc (164 + 27 * j) 1 (by omega) (by omega), hcc (165 + 27 * j) 2 (by omega) (by omega), h (166 + 27 * j) (by omega) (by omega), h (167 + 27 * j) (by omega) (by omega), h (168 + 27 * j) (by omega) (by omega), h (170 + 27 * j) (by omega) (by omega), h3, hcf 1 (Or.inl rfl), lst_c hcf hW (hC h0.1)]
    exact h0
theorem WX_sen {S S' : Nat → Int32} {i : Nat} {tS tS' tC : Nat → Int} {b : Int} (hW : WX S tS tC b) (hi : i < nS S) (hag : ∀ p, (p < 18 + 19 * i ∨ 30 + 19 * i ≤ p) → p ≠ 5 → S' p = S p) (hR : WR S' i (tS' i)) (ht : ∀ k, k ≠ i → tS' k = tS k) : WX S' tS' tC b := by
  have h8 := nS_le hW.1
  have hcf : cfE S S' := fun p hp => hag p (by rcases hp with h | h | h <;> omega) (by rcases hp with h | h | h <;> omega)
  have gm : ∀ p, (p < 18 + 19 * i ∨ 30 + 19 * i ≤ p) → p ≠ 5 → gI S' p = gI S p := fun p h1 h2 => congrArg Int32.toInt (hag p h1 h2)
  refine ⟨?_, fun k hk => ?_, fun j hj => ?_, fun e he => ?_⟩
  · unfold WG
    rw [gm 0 (by omega) (by omega), gm 6 (by omega) (by omega), gm 1 (by omega) (by omega), gm 2 (by omega) (by omega), gm 3 (by omega) (by omega), gm 4 (by omega) (by omega), gm 7 (by omega) (by omega), gm 8 (by omega) (by omega), gm 9 (by omega) (by omega), gm 10 (by omega) (by omega)]
    exact hW.1
  · rw [cfE_n hcf] at hk
    obtain ⟨h1, h2⟩ := hW.2.1 k hk
    refine ⟨WP_cong (fun p _ _ => hcf p (Or.inr (Or.inl (by omega)))) h1, ?_⟩
    by_cases e : k = i
    · rw [e]; exact hR
    · rw [ht k e]
      exact WR_cong (hag 0 (by omega) (by omega)) (fun p _ _ => hag p (by omega) (by omega)) h2
  · exact WC_cong hj hcf (CW_of hW) (WX_cl hW j hj) (hag 3 (by omega) (by omega)) (fun p _ _ => hag p (by omega) (by omega)) (hW.2.2.1 j hj)
  · rw [gm 3 (by omega) (by omega)] at he
    have hE := hW.2.2.2 e he
    have h3 := hW.1.2.2.2.2.1
    unfold WE gI at hE ⊢
    rw [hag (391 + 3 * e) (by omega) (by omega), hag (392 + 3 * e) (by omega) (by omega), hcf (163 + 27 * (S (391 + 3 * e)).toInt.toNat) (Or.inr (Or.inr (by omega)))]
    exact hE
theorem RH_sen {σ σ' : Mem} {q i : Nat} {S S' : Nat → Int32} {tS tC : Nat → Int} {b : Int} (hW : WX S tS tC b) (hi : i < nS S) (hag : ∀ p, (p < 18 + 19 * i ∨ 30 + 19 * i ≤ p) → p ≠ 5 → S' p = S p) (hσ : ∀ w, q < w → w < q + 42 → w ≠ q + 2 + (8 + 2 * i) → w ≠ q + 2 + (8 + 2 * i) + 1 → σ' w = σ w) (hq : ∀ k, k ≠ 2 → σ' q k = σ q k) (h2 : σ' q 2 = S' 5) (hs : ∀ k, k < 12 → σ' (q + 2 + (8 + 2 * i)) k = σ (q + 2 + (8 + 2 * i)) k) (hRR : RR (σ' (q + 2 + (8 + 2 * i))) (σ' (q + 2 + (8 + 2 * i) + 1)) S' i) (hR : RH σ q S) : RH σ' q S' := by
  have h8 := nS_le hW.1
  have hcf : cfE S S' := fun p hp => hag p (by rcases hp with h | h | h <;> omega) (by rcases hp with h | h | h <;> omega)
  have hRS := (RH_iff.mp hR).1
  obtain ⟨⟨g0, g1, g2, g3, g4, g5⟩, hRO, hRE, hRRS, hRCS⟩ := hR
  have h3b := hW.1.2.2.2.2.1
  have h2b := hW.1.2.2.2.1
  refine RH_iff.mpr ⟨RS_keep hcf (CW_of hW) ⟨fun k x hk hx => ?_, fun j x hj hx => ?_⟩ (WX_cl hW) hRS, ⟨?_, ?_, ?_, ?_, ?_, ?_⟩, ?_, ?_, ?_, ?_⟩
  · by_cases e : k = i
    · rw [e]; exact hs x hx
    · rw [hσ _ (by omega) (by omega) (by omega) (by omega)]
  · rw [hσ _ (by omega) (by omega) (by omega) (by omega)]
  · rw [hq 0 (by omega), hag 0 (by omega) (by omega)]; exact g0
  · rw [hq 1 (by omega), hag 6 (by omega) (by omega)]; exact g1
  · exact h2
  · rw [hq 3 (by omega), hag 4 (by omega) (by omega)]; exact g3
  · rw [hq 4 (by omega), hag 1 (by omega) (by omega)]; exact g4
  · intro c hc
    rw [hσ _ (by omega) (by omega) (by omega) (by omega), hag (7 + c) (by omega) (by omega)]
    exact g5 c hc
  · unfold RO gI at hRO ⊢
    rw [hσ (q + 4) (by omega) (by omega) (by omega) (by omega), hσ (q + 4 + 1) (by omega) (by omega) (by omega) (by omega), hσ (q + 4 + 2) (by omega) (by omega) (by omega) (by omega), hσ (q + 4 + 3) (by omega) (by omega) (by omega) (by omega), hag 2 (by omega) (by omega)]
    refine ⟨hRO.1, fun o ho => ?_⟩
    rw [hag (379 + 3 * o) (by omega) (by omega), hag (380 + 3 * o) (by omega) (by omega), hag (381 + 3 * o) (by omega) (by omega)]
    exact hRO.2 o ho
  · unfold RE gI at hRE ⊢
    rw [hσ (q + 8) (by omega) (by omega) (by omega) (by omega), hσ (q + 8 + 1) (by omega) (by omega) (by omega) (by omega), hag 3 (by omega) (by omega)]
    refine ⟨hRE.1, fun e p he hp => ?_⟩
    rw [hag (391 + 3 * e + p) (by omega) (by omega)]
    exact hRE.2 e p he hp
  · intro k hk
    rw [cfE_n hcf] at hk
    by_cases e : k = i
    · rw [e]; exact hRR
    · rw [hσ _ (by omega) (by omega) (by omega) (by omega), hσ _ (by omega) (by omega) (by omega) (by omega)]
      exact RR_cong (fun p _ _ => hag p (by omega) (by omega)) (hRRS k hk).2.1
  · intro j hj
    rw [hσ _ (by omega) (by omega) (by omega) (by omega), hσ _ (by omega) (by omega) (by omega) (by omega)]
    exact RC_cong (fun p _ _ => hag p (by omega) (by omega)) (hRCS j hj).1
theorem rcvS_18 {S : Nat → Int32} {i : Nat} {st v : Int32} : rcvS S i st v (18 + 19 * i) = S (18 + 19 * i) + 1 := by
  unfold rcvS
  split
  · rw [upS_m (by omega), upS_m (by omega), upS_h rfl]
  · rw [upS_m (by omega), upS_m (by omega), upS_m (by omega), upS_m (by omega), upS_h rfl]
theorem rcvS_19 {S : Nat → Int32} {i : Nat} {st v : Int32} : rcvS S i st v (19 + 19 * i) = st := by
  unfold rcvS
  split
  · rw [upS_m (by omega), upS_h rfl]
  · rw [upS_m (by omega), upS_m (by omega), upS_m (by omega), upS_h rfl]
theorem rcvS_20 {S : Nat → Int32} {i : Nat} {st v : Int32} : rcvS S i st v (20 + 19 * i) = v := by
  unfold rcvS
  split
  · rw [upS_h rfl]
  · rw [upS_m (by omega), upS_m (by omega), upS_h rfl]
theorem rcvS_21 {S : Nat → Int32} {i : Nat} {st v : Int32} : rcvS S i st v (21 + 19 * i) = if v = -8 then S (21 + 19 * i) else S (21 + 19 * i) + 1 := by
  unfold rcvS
  by_cases h : v = -8
  · rw [if_pos h, if_pos h, upS_m (by omega), upS_m (by omega), upS_m (by omega)]
  · rw [if_neg h, if_neg h, upS_h rfl]
theorem rcvS_22 {S : Nat → Int32} {i r : Nat} {st v : Int32} (hr : r < 8) : rcvS S i st v (22 + 19 * i + r) = if v ≠ -8 ∧ r = (S (21 + 19 * i)).toInt.toNat % 8 then v else S (22 + 19 * i + r) := by
  unfold rcvS
  by_cases h : v = -8
  · rw [if_pos h, if_neg (fun z => z.1 h), upS_m (by omega), upS_m (by omega), upS_m (by omega)]
  · rw [if_neg h, upS_m (by omega)]
    by_cases e : r = (S (21 + 19 * i)).toInt.toNat % 8
    · rw [if_pos ⟨h, e⟩, upS_h (by omega)]
    · rw [if_neg (fun z => e z.2), upS_m (by omega), upS_m (by omega), upS_m (by omega), upS_m (by omega)]
theorem i1T : (1 : Int32).toInt = 1 := by decide
theorem plus1 {x : Int32} {B : Int} (h : x.toInt ≤ B) (hB : B ≤ 2000000000) : (x + 1).toInt = x.toInt + 1 := by
  have := tB x
  rw [tA (by rw [i1T]; omega) (by rw [i1T]; omega), i1T]
theorem rcv_WR {S : Nat → Int32} {i : Nat} {t : Int} {st v : Int32} (h0 : 0 ≤ gI S 0 ∧ gI S 0 ≤ 10499) (ht : t ≤ 10500) (h : WR S i t) (hs : 0 ≤ st.toInt ∧ st.toInt ≤ 401 * gI S 0 ∧ (S (11 + 19 * i) = 4 → st.toInt ≤ gI S 0 + 400 * (gI S (18 + 19 * i) + 1))) (hv : v = -8 ∨ (0 ≤ v.toInt ∧ v.toInt ≤ 999)) (x : Int32) : WR (upS (rcvS S i st v) 5 x) i (t + 1) := by
  have e5 : ∀ p, p ≠ 5 → upS (rcvS S i st v) 5 x p = rcvS S i st v p := fun p hp => upS_m hp
  obtain ⟨w1, w2, w3, w4, w5, w6⟩ := h
  unfold WR
  unfold gI at *
  rw [e5 0 (by omega), e5 (11 + 19 * i) (by omega), e5 (18 + 19 * i) (by omega), e5 (19 + 19 * i) (by omega), e5 (20 + 19 * i) (by omega), e5 (21 + 19 * i) (by omega), rcvS_m (j := 0) (by omega), rcvS_m (j := 11 + 19 * i) (by omega), rcvS_18, rcvS_19, rcvS_20, rcvS_21]
  have p1 : (S (18 + 19 * i) + 1).toInt = (S (18 + 19 * i)).toInt + 1 := plus1 w1.2 (by omega)
  have p2 : (S (21 + 19 * i) + 1).toInt = (S (21 + 19 * i)).toInt + 1 := plus1 w4.2 (by omega)
  rw [p1]
  refine ⟨by omega, ⟨hs.1, hs.2.1, fun h4 => by have := hs.2.2 h4; omega⟩, hv, ?_, fun r hr hg => ?_, fun _ hv8 => ?_⟩
  · by_cases h8 : v = -8
    · rw [if_pos h8]; omega
    · rw [if_neg h8, p2]; omega
  · rw [e5 _ (by omega), rcvS_22 hr]
    by_cases h8 : v ≠ -8 ∧ r = (S (21 + 19 * i)).toInt.toNat % 8
    · rw [if_pos h8]
      rcases hv with hv | hv
      · exact absurd hv h8.1
      · exact hv
    · rw [if_neg h8]
      by_cases hv8 : v = -8
      · rw [if_pos hv8] at hg
        exact w5 r hr hg
      · rw [if_neg hv8, p2] at hg
        have hne : ¬ r = (S (21 + 19 * i)).toInt.toNat % 8 := fun e => h8 ⟨hv8, e⟩
        exact w5 r hr (by omega)
  · rw [if_neg hv8, p2]
    omega
theorem ups5_id {S : Nat → Int32} : upS S 5 (S 5) = S := by
  funext j
  by_cases e : j = 5
  · rw [upS_h e, e]
  · rw [upS_m e]
theorem rcv_WR' {S : Nat → Int32} {i : Nat} {t : Int} {st v : Int32} (h0 : 0 ≤ gI S 0 ∧ gI S 0 ≤ 10499) (ht : t ≤ 10500) (h : WR S i t) (hs : 0 ≤ st.toInt ∧ st.toInt ≤ 401 * gI S 0 ∧ (S (11 + 19 * i) = 4 → st.toInt ≤ gI S 0 + 400 * (gI S (18 + 19 * i) + 1))) (hv : v = -8 ∨ (0 ≤ v.toInt ∧ v.toInt ≤ 999)) : WR (rcvS S i st v) i (t + 1) := by
  have := rcv_WR h0 ht h hs hv (rcvS S i st v 5)
  rw [ups5_id] at this
  exact this
