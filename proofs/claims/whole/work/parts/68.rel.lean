/-! a run with a smaller capacity beside the one with 30 -/
theorem wk8 {S : Nat → Int32} {tS tC : Nat → Int} {b : Int} (hW : WX S tS tC b) (hb : b ≤ 100000) : gI (wkS S) 8 = gI S 8 + (if S 3 < S 4 then 0 else 1) := by
  have h3 := hW.1.2.2.2.2.1
  have h4 := hW.1.2.2.2.2.2.1
  have hs := hW.1.2.2.2.2.2.2
  unfold wkS
  by_cases h : S 3 < S 4
  · rw [if_pos h, if_pos h]; omega
  · rw [if_neg h, if_neg h]
    have h0 : S 3 ≠ 0 := fun e => by
      rw [Int32.lt_iff_toInt_lt, e, z0T] at h
      unfold gI at h4
      omega
    unfold gI at hs h3
    show (wakeS S 1 8).toInt = _
    unfold wakeS
    rw [if_neg h0, upS_h rfl, dlvN_m (j := 8) (Or.inl (by omega)) _ (fun e he => (hW.2.2.2 e (by unfold gI; omega)).1.2)]
    unfold gI
    rw [plus1 (B := 100000) (by omega) (by decide)]
theorem pas_m {S : Nat → Int32} {j p : Nat} (h : p ≠ 167 + 27 * j) : pasS S j p = S p := upS_m h
theorem st8 {P F S : Nat → Int32} {tS tC : Nat → Int} {b : Int} (hW : WX S tS tC b) (hb : b ≤ 100000) (ht : ∀ j, tC j ≤ 10500) {j : Nat} (hj : j < 8) : gI S 8 ≤ gI (stJ P F S j) 8 := by
  have hpas := WX_pas hW ht hj
  have g8 : gI (pasS S j) 8 = gI S 8 := congrArg Int32.toInt (pas_m (by omega))
  unfold stJ
  by_cases h1 : S (163 + 27 * j) = 1
  · rw [if_pos h1]
    by_cases hF : F (S (164 + 27 * j)).toInt.toNat = 0
    · rw [if_pos hF]; exact Int.le_refl _
    · rw [if_neg hF]
      by_cases hk : keepS P S j = 0
      · rw [if_pos hk]
        obtain ⟨w1, w2, w3, w4, w5⟩ := wkS_W hpas hb
        have hf := (cnt_in hW hb hj h1).1.2.1
        have hpc : cfE S (pasS S j) := fun p hp => pas_m (by rcases hp with h | h | h <;> omega)
        have hn : nS (wkS (pasS S j)) = nS S := by rw [cfE_n w2, cfE_n hpc]
        obtain ⟨a1, a2, a3⟩ := addE_W (f := (S (164 + 27 * j)).toInt.toNat) w1 hj (by rw [cf_c w2 (j := j) (k := 0) hj (by omega) (by omega), pas_m (by omega)]; exact h1) (by rw [hn]; exact hf) w5
        have e8 : gI (addE (wkS (pasS S j)) j (S (164 + 27 * j)).toInt.toNat) 8 = gI (wkS (pasS S j)) 8 := congrArg Int32.toInt (a2 8 (by omega) (by omega))
        have := wk8 hpas hb
        rw [e8, this, g8]
        split <;> omega
      · rw [if_neg hk, g8]; exact Int.le_refl _
  · rw [if_neg h1]; exact Int.le_refl _
theorem mo_t {S : Nat → Int32} {tS tC : Nat → Int} {b : Int} (hW : WX S tS tC b) (hb : b ≤ 100000) : (wkS S 3 + 1).toInt = gI (wkS S) 3 + 1 ∧ 0 ≤ gI (wkS S) 3 ∧ gI (wkS S) 3 + 1 ≤ 30 := by
  obtain ⟨w1, w2, w3, w4, w5⟩ := wkS_W hW hb
  have h3 := w1.1.2.2.2.2.1
  have h4 := w1.1.2.2.2.2.2.1
  unfold gI at *
  rw [plus1 h3.2 (by decide)]
  omega
theorem moJ_in {P F S : Nat → Int32} {M : Int32} {tS tC : Nat → Int} {b : Int} (hW : WX S tS tC b) (hb : b ≤ 100000) (ht : ∀ j, tC j ≤ 10500) {j : Nat} (hj : j < 8) : M.toInt ≤ (moJ P F S j M).toInt ∧ (M.toInt ≤ 30 → (moJ P F S j M).toInt ≤ 30) := by
  have hpas := WX_pas hW ht hj
  have hm := mo_t hpas hb
  unfold moJ
  by_cases h1 : S (163 + 27 * j) = 1
  · rw [if_pos h1]
    by_cases hF : F (S (164 + 27 * j)).toInt.toNat = 0
    · rw [if_pos hF]; exact ⟨Int.le_refl _, id⟩
    · rw [if_neg hF]
      by_cases hk : keepS P S j = 0
      · rw [if_pos hk]
        by_cases hl : M < wkS (pasS S j) 3 + 1
        · rw [if_pos hl, hm.1]
          rw [Int32.lt_iff_toInt_lt, hm.1] at hl
          exact ⟨by omega, fun _ => by omega⟩
        · rw [if_neg hl]; exact ⟨Int.le_refl _, id⟩
      · rw [if_neg hk]; exact ⟨Int.le_refl _, id⟩
  · rw [if_neg h1]; exact ⟨Int.le_refl _, id⟩
theorem i30T : (30 : Int32).toInt = 30 := by decide
theorem rel_J {X P F : Nat → Int32} {M c : Int32} {tS tC : Nat → Int} {b b0 : Int} {j : Nat} (hW : WX X tS tC b) (hb : b ≤ 100000) (ht : ∀ j, tC j ≤ 10500) (hj : j < 8) (h4 : X 4 = 30) (hc : 1 ≤ c.toInt ∧ c.toInt ≤ 30) (h8 : gI X 8 = b0) (hM : M.toInt ≤ c.toInt) : (gI (stJ P F X j) 8 = b0 ∧ (moJ P F X j M).toInt ≤ c.toInt ∧ stJ P F (upS X 4 c) j = upS (stJ P F X j) 4 c) ∨ (¬ (gI (stJ P F X j) 8 = b0 ∧ (moJ P F X j M).toInt ≤ c.toInt) ∧ b0 < gI (stJ P F (upS X 4 c) j) 8) := by
  have hWY := cap_W hW hc
  have hpX := WX_pas hW ht hj
  have hpY := WX_pas hWY ht hj
  unfold stJ moJ
  rw [upS_m (j := 163 + 27 * j) (by omega), upS_m (j := 164 + 27 * j) (by omega), keepS_u4, pasS_u4]
  rw [pasS_u4] at hpY
  by_cases h1 : X (163 + 27 * j) = 1
  · simp only [if_pos h1]
    by_cases hF : F (X (164 + 27 * j)).toInt.toNat = 0
    · simp only [if_pos hF]
      exact Or.inl ⟨h8, hM, trivial⟩
    · simp only [if_neg hF]
      by_cases hk : keepS P X j = 0
      · simp only [if_pos hk]
        have g8 : gI (pasS X j) 8 = b0 := by rw [← h8]; exact congrArg Int32.toInt (pas_m (by omega))
        have p4 : pasS X j 4 = 30 := by rw [pas_m (by omega), h4]
        have g3 := hpX.1.2.2.2.2.1
        have hmx := mo_t hpX hb
        have wx8 := wk8 hpX hb
        have wy8 := wk8 hpY hb
        obtain ⟨w1, w2, w3, w4, w5⟩ := wkS_W hpX hb
        obtain ⟨y1, y2, y3, y4, y5⟩ := wkS_W hpY hb
        have hf := (cnt_in hW hb hj h1).1.2.1
        have hpc : cfE X (pasS X j) := fun p hp => pas_m (by rcases hp with h | h | h <;> omega)
        have hn : nS (wkS (pasS X j)) = nS X := by rw [cfE_n w2, cfE_n hpc]
        have hnY : nS (wkS (upS (pasS X j) 4 c)) = nS X := by rw [cfE_n y2, nS_u4, cfE_n hpc]
        obtain ⟨a1, a2, a3⟩ := addE_W (f := (X (164 + 27 * j)).toInt.toNat) w1 hj (by rw [cf_c w2 (j := j) (k := 0) hj (by omega) (by omega), pas_m (by omega)]; exact h1) (by rw [hn]; exact hf) w5
        obtain ⟨b1, b2, b3⟩ := addE_W (f := (X (164 + 27 * j)).toInt.toNat) y1 hj (by rw [cf_c y2 (j := j) (k := 0) hj (by omega) (by omega), upS_m (by omega), pas_m (by omega)]; exact h1) (by rw [hnY]; exact hf) y5
        have e8 : gI (addE (wkS (pasS X j)) j (X (164 + 27 * j)).toInt.toNat) 8 = gI (wkS (pasS X j)) 8 := congrArg Int32.toInt (a2 8 (by omega) (by omega))
        have f8 : gI (addE (wkS (upS (pasS X j) 4 c)) j (X (164 + 27 * j)).toInt.toNat) 8 = gI (wkS (upS (pasS X j) 4 c)) 8 := congrArg Int32.toInt (b2 8 (by omega) (by omega))
        have gy8 : gI (upS (pasS X j) 4 c) 8 = b0 := by rw [← g8]; exact congrArg Int32.toInt (upS_m (by omega))
        rw [e8, f8]
        rw [upS_m (j := 3) (by omega), upS_h (j := 4) rfl] at wy8
        rw [p4] at wx8
        by_cases c1 : pasS X j 3 < c
        · have c1' := c1
          rw [Int32.lt_iff_toInt_lt] at c1'
          have c2 : pasS X j 3 < 30 := by rw [Int32.lt_iff_toInt_lt, i30T]; omega
          have ex : wkS (pasS X j) = pasS X j := if_pos (by rw [p4]; exact c2)
          have ey : wkS (upS (pasS X j) 4 c) = upS (pasS X j) 4 c := if_pos (by rw [upS_m (by omega), upS_h rfl]; exact c1)
          rw [ex] at hmx
          left
          rw [ex, ey, addE_u4]
          refine ⟨g8, ?_, rfl⟩
          by_cases hl : M < pasS X j 3 + 1
          · rw [if_pos hl, hmx.1]
            unfold gI
            omega
          · rw [if_neg hl]; exact hM
        · right
          rw [if_neg c1] at wy8
          refine ⟨fun z => ?_, by omega⟩
          by_cases c2 : pasS X j 3 < 30
          · have ex : wkS (pasS X j) = pasS X j := if_pos (by rw [p4]; exact c2)
            have hz := z.2
            rw [ex] at hmx hz
            rw [Int32.lt_iff_toInt_lt] at c1
            by_cases hl : M < pasS X j 3 + 1
            · rw [if_pos hl, hmx.1] at hz
              unfold gI at hz
              omega
            · rw [Int32.lt_iff_toInt_lt, hmx.1] at hl
              unfold gI at hl
              omega
          · rw [if_neg c2] at wx8
            have := z.1
            omega
      · simp only [if_neg hk]
        exact Or.inl ⟨by rw [← h8]; exact congrArg Int32.toInt (pas_m (by omega)), hM, trivial⟩
  · simp only [if_neg h1]
    exact Or.inl ⟨h8, hM, trivial⟩
theorem moN_in {P F S : Nat → Int32} {M : Int32} {tS tC : Nat → Int} {b : Int} (hW : WX S tS tC b) (hb : b + 8 ≤ 100000) (ht : ∀ j, tC j < 10500) (hP : ∀ k, k < nS S → P k = pd S k) : ∀ j, j ≤ 8 → M.toInt ≤ (moN P F S M j).toInt ∧ (M.toInt ≤ 30 → (moN P F S M j).toInt ≤ 30) ∧ gI S 8 ≤ gI (stN P F S j) 8 := by
  intro j
  induction j with
  | zero => intro _; exact ⟨Int.le_refl _, id, Int.le_refl _⟩
  | succ j ih =>
    intro hj
    obtain ⟨i1, i2, i3⟩ := ih (by omega)
    obtain ⟨w1, w2, w3⟩ := stN_W (F := F) (P := P) hW hb ht hP j (by omega)
    have hm := moJ_in (P := P) (F := F) (M := moN P F S M j) w1 (by omega) (fun k => by have := ht k; unfold tN; split <;> omega) (show j < 8 by omega)
    have hs := st8 (P := P) (F := F) w1 (by omega) (fun k => by have := ht k; unfold tN; split <;> omega) (show j < 8 by omega)
    show M.toInt ≤ (moJ P F (stN P F S j) j (moN P F S M j)).toInt ∧ (M.toInt ≤ 30 → (moJ P F (stN P F S j) j (moN P F S M j)).toInt ≤ 30) ∧ gI S 8 ≤ gI (stJ P F (stN P F S j) j) 8
    exact ⟨by omega, fun h => hm.2 (i2 h), by omega⟩
theorem rel_N {X P F : Nat → Int32} {M c : Int32} {tS tC : Nat → Int} {b b0 : Int} (hW : WX X tS tC b) (hb : b + 8 ≤ 100000) (ht : ∀ j, tC j < 10500) (hP : ∀ k, k < nS X → P k = pd X k) (h4 : X 4 = 30) (hc : 1 ≤ c.toInt ∧ c.toInt ≤ 30) (h8 : gI X 8 = b0) (hM : M.toInt ≤ c.toInt) : ∀ j, j ≤ 8 → (gI (stN P F X j) 8 = b0 ∧ (moN P F X M j).toInt ≤ c.toInt ∧ stN P F (upS X 4 c) j = upS (stN P F X j) 4 c) ∨ (¬ (gI (stN P F X j) 8 = b0 ∧ (moN P F X M j).toInt ≤ c.toInt) ∧ b0 < gI (stN P F (upS X 4 c) j) 8) := by
  have hWY := cap_W hW hc
  have hPY : ∀ k, k < nS (upS X 4 c) → P k = pd (upS X 4 c) k := fun k hk => by
    rw [nS_u4] at hk
    rw [pd_u4]
    exact hP k hk
  intro j
  induction j with
  | zero => intro _; exact Or.inl ⟨h8, hM, rfl⟩
  | succ j ih =>
    intro hj
    obtain ⟨w1, w2, w3⟩ := stN_W (F := F) (P := P) hW hb ht hP j (by omega)
    obtain ⟨y1, y2, y3⟩ := stN_W (F := F) (P := P) hWY hb ht hPY j (by omega)
    have ht2 : ∀ k, tN tC j k ≤ 10500 := fun k => by have := ht k; unfold tN; split <;> omega
    have hmn := moN_in (F := F) (M := M) hW hb ht hP j (by omega)
    show (gI (stJ P F (stN P F X j) j) 8 = b0 ∧ (moJ P F (stN P F X j) j (moN P F X M j)).toInt ≤ c.toInt ∧ stJ P F (stN P F (upS X 4 c) j) j = upS (stJ P F (stN P F X j) j) 4 c) ∨ (¬ (gI (stJ P F (stN P F X j) j) 8 = b0 ∧ (moJ P F (stN P F X j) j (moN P F X M j)).toInt ≤ c.toInt) ∧ b0 < gI (stJ P F (stN P F (upS X 4 c) j) j) 8)
    rcases ih (by omega) with ⟨i1, i2, i3⟩ | ⟨i1, i2⟩
    · rw [i3]
      exact rel_J w1 (by omega) ht2 (by omega) (by rw [w3 4 (by omega) (by omega) (by omega) (by omega)]; exact h4) hc i1 i2
    · right
      have s1 := st8 (P := P) (F := F) w1 (by omega) ht2 (show j < 8 by omega)
      have s2 := st8 (P := P) (F := F) y1 (by omega) ht2 (show j < 8 by omega)
      have s3 := (moJ_in (P := P) (F := F) (M := moN P F X M j) w1 (by omega) ht2 (show j < 8 by omega)).1
      exact ⟨fun z => i1 ⟨by omega, by omega⟩, by omega⟩
/-- what a tick does to the wakes for want of room -/
theorem tk8 {S F P : Nat → Int32} {M : Int32} (hW : WF S) (hn : gI S 0 ≤ 10498) (hP : ∀ k, k < nS S → P k = pd S k) : gI S 8 ≤ gI (tkS P (S, F)).1 8 ∧ M.toInt ≤ (moS P (S, F) M).toInt ∧ (M.toInt ≤ 30 → (moS P (S, F) M).toInt ≤ 30) := by
  have hCW := CW_of hW
  have h0 := hW.1.1
  obtain ⟨a1, a2, a3, a4⟩ := now1_W hW hn
  have hP1 : ∀ k, k < nS (now1 S) → P k = pd (now1 S) k := fun k hk => by
    rw [a4] at hk
    rw [hP k hk, pd_c a3 hCW hk]
  obtain ⟨b1, b2, b3, b4⟩ := senN_W (F := F) a1 hP1 (fun k _ => by rw [a2]; omega) (nS S) (by rw [a4]; omega)
  have hCW1 := CW_of a1
  rw [tkS_eq, moS_eq]
  have e8 : gI (senN P (now1 S, F) (nS S)).1 8 = gI S 8 := congrArg Int32.toInt ((b3 8 (by omega) (by omega)).trans (upS_m (by omega)))
  generalize senN P (now1 S, F) (nS S) = w at *
  obtain ⟨S1, F1⟩ := w
  simp only at b1 b2 b3 b4 e8 ⊢
  have hPb : ∀ k, k < nS S1 → P k = pd S1 k := fun k hk => by
    rw [cfE_n b4] at hk
    rw [hP1 k hk, pd_c b4 hCW1 hk]
  obtain ⟨c1, c2, c3⟩ := stN_W (F := F1) (P := P) b1 (by omega) (fun _ => by omega) hPb 8 (Nat.le_refl _)
  obtain ⟨m1, m2, m3⟩ := moN_in (F := F1) (M := M) b1 (by omega) (fun _ => by omega) hPb 8 (Nat.le_refl _)
  generalize stN P F1 S1 8 = S2 at *
  obtain ⟨d1, d2, d3⟩ := dueL_W c1 (by omega) (S2 3).toInt.toNat 0 (by omega)
  have f8 : gI (dueS S2) 8 = gI S2 8 := congrArg Int32.toInt (d3 8 (by omega) (by omega) (by omega) (by omega))
  rw [f8]
  exact ⟨by omega, m1, m2⟩
theorem rel_T {S F P : Nat → Int32} {M c : Int32} {b0 : Int} (hW : WF S) (hn : gI S 0 ≤ 10498) (hP : ∀ k, k < nS S → P k = pd S k) (h4 : S 4 = 30) (hc : 1 ≤ c.toInt ∧ c.toInt ≤ 30) (h8 : gI S 8 = b0) (hM : M.toInt ≤ c.toInt) : (gI (tkS P (S, F)).1 8 = b0 ∧ (moS P (S, F) M).toInt ≤ c.toInt ∧ tkS P (upS S 4 c, F) = (upS (tkS P (S, F)).1 4 c, (tkS P (S, F)).2)) ∨ (¬ (gI (tkS P (S, F)).1 8 = b0 ∧ (moS P (S, F) M).toInt ≤ c.toInt) ∧ b0 < gI (tkS P (upS S 4 c, F)).1 8) := by
  have hCW := CW_of hW
  have h0 := hW.1.1
  obtain ⟨a1, a2, a3, a4⟩ := now1_W hW hn
  have hP1 : ∀ k, k < nS (now1 S) → P k = pd (now1 S) k := fun k hk => by
    rw [a4] at hk
    rw [hP k hk, pd_c a3 hCW hk]
  obtain ⟨b1, b2, b3, b4⟩ := senN_W (F := F) a1 hP1 (fun k _ => by rw [a2]; omega) (nS S) (by rw [a4]; omega)
  have hCW1 := CW_of a1
  have hx : tkS P (S, F) = (dueS (stN P (senN P (now1 S, F) (nS S)).2 (senN P (now1 S, F) (nS S)).1 8), (senN P (now1 S, F) (nS S)).2) := by simp only [tkS]
  have hy : tkS P (upS S 4 c, F) = (dueS (stN P (senN P (now1 S, F) (nS S)).2 (upS (senN P (now1 S, F) (nS S)).1 4 c) 8), (senN P (now1 S, F) (nS S)).2) := by
    simp only [tkS]
    rw [now1_u4, nS_u4, senN_u4]
  rw [hx, hy, moS_eq]
  have e8 : gI (senN P (now1 S, F) (nS S)).1 8 = b0 := by rw [← h8]; exact congrArg Int32.toInt ((b3 8 (by omega) (by omega)).trans (upS_m (by omega)))
  have e4 : (senN P (now1 S, F) (nS S)).1 4 = 30 := by rw [b3 4 (by omega) (by omega), ← h4]; exact upS_m (by omega)
  generalize senN P (now1 S, F) (nS S) = w at *
  obtain ⟨S1, F1⟩ := w
  simp only at b1 b2 b3 b4 e8 e4 ⊢
  have hPb : ∀ k, k < nS S1 → P k = pd S1 k := fun k hk => by
    rw [cfE_n b4] at hk
    rw [hP1 k hk, pd_c b4 hCW1 hk]
  have hPY : ∀ k, k < nS (upS S1 4 c) → P k = pd (upS S1 4 c) k := fun k hk => by
    rw [nS_u4] at hk
    rw [pd_u4]
    exact hPb k hk
  obtain ⟨c1, c2, c3⟩ := stN_W (F := F1) (P := P) b1 (by omega) (fun _ => by omega) hPb 8 (Nat.le_refl _)
  obtain ⟨y1, y2, y3⟩ := stN_W (F := F1) (P := P) (cap_W b1 hc) (by omega) (fun _ => by omega) hPY 8 (Nat.le_refl _)
  have hr := rel_N (F := F1) (M := M) b1 (by omega) (fun _ => by omega) hPb e4 hc e8 hM 8 (Nat.le_refl _)
  generalize stN P F1 (upS S1 4 c) 8 = Y2 at *
  generalize stN P F1 S1 8 = S2 at *
  obtain ⟨d1, d2, d3⟩ := dueL_W c1 (by omega) (S2 3).toInt.toNat 0 (by omega)
  obtain ⟨z1, z2, z3⟩ := dueL_W y1 (by omega) (Y2 3).toInt.toNat 0 (by omega)
  have f8 : gI (dueS S2) 8 = gI S2 8 := congrArg Int32.toInt (d3 8 (by omega) (by omega) (by omega) (by omega))
  have v8 : gI (dueS Y2) 8 = gI Y2 8 := congrArg Int32.toInt (z3 8 (by omega) (by omega) (by omega) (by omega))
  rw [f8, v8]
  rcases hr with ⟨i1, i2, i3⟩ | ⟨i1, i2⟩
  · left
    refine ⟨i1, i2, ?_⟩
    rw [i3, dueS_u4]
  · exact Or.inr ⟨i1, i2⟩
theorem rel_P {S F P : Nat → Int32} {c : Int32} (hW : WF S) (hP : ∀ k, k < nS S → P k = pd S k) (h4 : S 4 = 30) (hc : 1 ≤ c.toInt ∧ c.toInt ≤ 30) : ∀ m : Nat, gI S 0 + m ≤ 10499 → (gI S 8 ≤ gI (passN P (S, F) m).1 8 ∧ 0 ≤ (moP P (S, F) 0 m).toInt ∧ (moP P (S, F) 0 m).toInt ≤ 30) ∧ ((gI (passN P (S, F) m).1 8 = gI S 8 ∧ (moP P (S, F) 0 m).toInt ≤ c.toInt ∧ passN P (upS S 4 c, F) m = (upS (passN P (S, F) m).1 4 c, (passN P (S, F) m).2)) ∨ (¬ (gI (passN P (S, F) m).1 8 = gI S 8 ∧ (moP P (S, F) 0 m).toInt ≤ c.toInt) ∧ gI S 8 < gI (passN P (upS S 4 c, F) m).1 8)) := by
  have hCW := CW_of hW
  have g0 : gI (upS S 4 c) 0 = gI S 0 := congrArg Int32.toInt (upS_m (by omega))
  have hWY : WF (upS S 4 c) := by
    unfold WF
    rw [g0]
    exact cap_W hW hc
  have hPY : ∀ k, k < nS (upS S 4 c) → P k = pd (upS S 4 c) k := fun k hk => by
    rw [nS_u4] at hk
    rw [pd_u4]
    exact hP k hk
  intro m
  induction m with
  | zero =>
    intro _
    refine ⟨⟨Int.le_refl _, ?_, ?_⟩, Or.inl ⟨rfl, ?_, rfl⟩⟩
    · show 0 ≤ (0 : Int32).toInt
      rw [z0T]; omega
    · show (0 : Int32).toInt ≤ 30
      rw [z0T]; omega
    · show (0 : Int32).toInt ≤ _
      rw [z0T]; omega
  | succ m ih =>
    intro hm
    obtain ⟨⟨i1, i2, i3⟩, i4⟩ := ih (by omega)
    obtain ⟨w1, w2, w3, w4⟩ := pass_W (F := F) (P := P) hW hP m (by omega)
    obtain ⟨y1, y2, y3, y4⟩ := pass_W (F := F) (P := P) hWY hPY m (by omega)
    have hPm : ∀ k, k < nS (passN P (S, F) m).1 → P k = pd (passN P (S, F) m).1 k := fun k hk => by
      rw [cfE_n w2] at hk
      rw [hP k hk, pd_c w2 hCW hk]
    have hPn : ∀ k, k < nS (passN P (upS S 4 c, F) m).1 → P k = pd (passN P (upS S 4 c, F) m).1 k := fun k hk => by
      rw [cfE_n y2] at hk
      rw [hPY k hk, pd_c y2 (CW_of hWY) hk]
    show (gI S 8 ≤ gI (tkS P (passN P (S, F) m)).1 8 ∧ 0 ≤ (moS P (passN P (S, F) m) (moP P (S, F) 0 m)).toInt ∧ (moS P (passN P (S, F) m) (moP P (S, F) 0 m)).toInt ≤ 30) ∧ ((gI (tkS P (passN P (S, F) m)).1 8 = gI S 8 ∧ (moS P (passN P (S, F) m) (moP P (S, F) 0 m)).toInt ≤ c.toInt ∧ tkS P (passN P (upS S 4 c, F) m) = (upS (tkS P (passN P (S, F) m)).1 4 c, (tkS P (passN P (S, F) m)).2)) ∨ (¬ (gI (tkS P (passN P (S, F) m)).1 8 = gI S 8 ∧ (moS P (passN P (S, F) m) (moP P (S, F) 0 m)).toInt ≤ c.toInt) ∧ gI S 8 < gI (tkS P (passN P (upS S 4 c, F) m)).1 8))
    have hx4 := w4 4 (by omega) (by omega) (by omega) (by omega) (by omega) (by omega)
    generalize moP P (S, F) 0 m = M at *
    generalize passN P (S, F) m = w at *
    generalize passN P (upS S 4 c, F) m = y at *
    obtain ⟨S1, F1⟩ := w
    obtain ⟨Y1, G1⟩ := y
    simp only at i1 i4 w1 w3 y1 y3 hPm hPn hx4 ⊢
    have t1 := tk8 (F := F1) (M := M) w1 (by omega) hPm
    have t2 := tk8 (F := G1) (M := M) y1 (by omega) hPn
    refine ⟨⟨by omega, by omega, t1.2.2 i3⟩, ?_⟩
    rcases i4 with ⟨k1, k2, k3⟩ | ⟨k1, k2⟩
    · have hr := rel_T (F := F1) w1 (by omega) hPm (by rw [hx4, h4]) hc k1 k2
      have e1 : Y1 = upS S1 4 c := (Prod.mk.inj k3).1
      have e2 : G1 = F1 := (Prod.mk.inj k3).2
      rw [e1, e2]
      exact hr
    · right
      exact ⟨fun z => k1 ⟨by omega, by omega⟩, by omega⟩
