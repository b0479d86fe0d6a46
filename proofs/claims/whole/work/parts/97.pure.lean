theorem same_go {α : Type} {fx fm : Mem → Option (Int32 × Mem)} (h : Same fx fm) {σ : Mem} (hσ : Inv σ) (K : Mem → Option α) : ∃ σ2, bd (fx σ) (fun r8 σ9 => bd (fm σ9) (fun r16 σ17 => if r8 = r16 then K σ17 else none)) = K σ2 ∧ Inv σ2 := by
  obtain ⟨r, σ1, σ2, e1, e2, h2⟩ := h σ hσ
  refine ⟨σ2, ?_, h2⟩
  rw [e1]
  simp only [bd]
  rw [e2]
  simp only [if_true]
set_option maxRecDepth 100000 in
set_option maxHeartbeats 4000000 in
theorem law_step {L : Nat} {xs : Nat → Int32} {k : Mem → Option (Unit × Mem)} {n i : Nat} {σ : Mem} (hL : L ≤ 3584) (hi : i + 7 ≤ L) (hσ : Inv σ) : ∃ σ', L_law_18 L xs 0 299 k (n + 1) (nI i) σ = L_law_18 L xs 0 299 k n (nI (i + 7)) σ' ∧ Inv σ' := by
  have e7 : nI i + 7 = nI (i + 7) := nI_add i 7
  have hiT : (nI i).toInt = i := nI_toInt (by omega)
  have hg : ∀ k : Nat, k < 7 → ib (nI (i + k)) L := fun k hk => ib_nI (by omega) (by omega)
  have g1 : ib (nI i + (1 : Int32)) L := by rw [show nI i + (1 : Int32) = nI (i + 1) from nI_add i 1]; exact hg 1 (by decide)
  have g2 : ib (nI i + (2 : Int32)) L := by rw [show nI i + (2 : Int32) = nI (i + 2) from nI_add i 2]; exact hg 2 (by decide)
  have g3 : ib (nI i + (3 : Int32)) L := by rw [show nI i + (3 : Int32) = nI (i + 3) from nI_add i 3]; exact hg 3 (by decide)
  have g4 : ib (nI i + (4 : Int32)) L := by rw [show nI i + (4 : Int32) = nI (i + 4) from nI_add i 4]; exact hg 4 (by decide)
  have g5 : ib (nI i + (5 : Int32)) L := by rw [show nI i + (5 : Int32) = nI (i + 5) from nI_add i 5]; exact hg 5 (by decide)
  have g6 : ib (nI i + (6 : Int32)) L := by rw [show nI i + (6 : Int32) = nI (i + 6) from nI_add i 6]; exact hg 6 (by decide)
  have hc : ¬ ((nI L) - (7 : Int32)) < nI i := by
    rw [Int32.lt_iff_toInt_lt, tS (by rw [nI_toInt (by omega)]; show _ ≤ (L : Int) - 7; omega) (by rw [nI_toInt (by omega)]; show (L : Int) - 7 < _; omega), nI_toInt (by omega), hiT]
    show ¬ (L : Int) - 7 < i
    omega
  suffices key : ∀ K : Mem → Option (Unit × Mem), (fun τ => L_law_18 L xs 0 299 k n (nI (i + 7)) τ) = K → ∃ σ', L_law_18 L xs 0 299 k (n + 1) (nI i) σ = K σ' ∧ Inv σ' from key _ rfl
  intro K hK
  unfold L_law_18
  rw [if_neg hc, if_pos (show ib (nI i) L from hg 0 (by decide)), e7]
  subst hK
  simp only [lt, if_pos g1, if_pos g2, if_pos g3, if_pos g4, if_pos g5, if_pos g6]
  by_cases h0 : (xs (nI i).toNatClampNeg &&& (31 : Int32)) = 0
  · rw [if_pos h0]
    exact same_go (s_addSensor _ _ _ _ _ _) hσ (fun τ => L_law_18 L xs 0 299 k n (nI (i + 7)) τ)
  rw [if_neg h0]
  by_cases h1 : (xs (nI i).toNatClampNeg &&& (31 : Int32)) = 1
  · rw [if_pos h1]
    exact same_go (s_addDerived _ _ _) hσ (fun τ => L_law_18 L xs 0 299 k n (nI (i + 7)) τ)
  rw [if_neg h1]
  by_cases h2 : (xs (nI i).toNatClampNeg &&& (31 : Int32)) = 2
  · rw [if_pos h2]
    exact same_go (s_addOutage _ _ _) hσ (fun τ => L_law_18 L xs 0 299 k n (nI (i + 7)) τ)
  rw [if_neg h2]
  by_cases h3 : (xs (nI i).toNatClampNeg &&& (31 : Int32)) = 3
  · rw [if_pos h3]
    exact same_go (s_subscribe _ _ _) hσ (fun τ => L_law_18 L xs 0 299 k n (nI (i + 7)) τ)
  rw [if_neg h3]
  by_cases h4 : (xs (nI i).toNatClampNeg &&& (31 : Int32)) = 4
  · rw [if_pos h4]
    exact same_go (s_unsubscribe _) hσ (fun τ => L_law_18 L xs 0 299 k n (nI (i + 7)) τ)
  rw [if_neg h4]
  by_cases h5 : (xs (nI i).toNatClampNeg &&& (31 : Int32)) = 5
  · rw [if_pos h5]
    exact same_go (s_setCapacity _) hσ (fun τ => L_law_18 L xs 0 299 k n (nI (i + 7)) τ)
  rw [if_neg h5]
  by_cases h6 : (xs (nI i).toNatClampNeg &&& (31 : Int32)) = 6
  · rw [if_pos h6]
    exact same_go (s_append _) hσ (fun τ => L_law_18 L xs 0 299 k n (nI (i + 7)) τ)
  rw [if_neg h6]
  by_cases h7 : (xs (nI i).toNatClampNeg &&& (31 : Int32)) = 7
  · rw [if_pos h7]
    exact same_go (s_clearText) hσ (fun τ => L_law_18 L xs 0 299 k n (nI (i + 7)) τ)
  rw [if_neg h7]
  by_cases h8 : (xs (nI i).toNatClampNeg &&& (31 : Int32)) = 8
  · rw [if_pos h8]
    exact same_go (s_load) hσ (fun τ => L_law_18 L xs 0 299 k n (nI (i + 7)) τ)
  rw [if_neg h8]
  by_cases h9 : (xs (nI i).toNatClampNeg &&& (31 : Int32)) = 9
  · rw [if_pos h9]
    exact same_go (s_advance _) hσ (fun τ => L_law_18 L xs 0 299 k n (nI (i + 7)) τ)
  rw [if_neg h9]
  by_cases h10 : (xs (nI i).toNatClampNeg &&& (31 : Int32)) = 10
  · rw [if_pos h10]
    exact same_go (s_flush) hσ (fun τ => L_law_18 L xs 0 299 k n (nI (i + 7)) τ)
  rw [if_neg h10]
  by_cases h11 : (xs (nI i).toNatClampNeg &&& (31 : Int32)) = 11
  · rw [if_pos h11]
    exact same_go (s_undo) hσ (fun τ => L_law_18 L xs 0 299 k n (nI (i + 7)) τ)
  rw [if_neg h11]
  by_cases h12 : (xs (nI i).toNatClampNeg &&& (31 : Int32)) = 12
  · rw [if_pos h12]
    exact same_go (s_count _) hσ (fun τ => L_law_18 L xs 0 299 k n (nI (i + 7)) τ)
  rw [if_neg h12]
  by_cases h13 : (xs (nI i).toNatClampNeg &&& (31 : Int32)) = 13
  · rw [if_pos h13]
    exact same_go (s_wakes _) hσ (fun τ => L_law_18 L xs 0 299 k n (nI (i + 7)) τ)
  rw [if_neg h13]
  by_cases h14 : (xs (nI i).toNatClampNeg &&& (31 : Int32)) = 14
  · rw [if_pos h14]
    exact same_go (s_sensor _ _) hσ (fun τ => L_law_18 L xs 0 299 k n (nI (i + 7)) τ)
  rw [if_neg h14]
  by_cases h15 : (xs (nI i).toNatClampNeg &&& (31 : Int32)) = 15
  · rw [if_pos h15]
    exact same_go (s_client _ _) hσ (fun τ => L_law_18 L xs 0 299 k n (nI (i + 7)) τ)
  rw [if_neg h15]
  by_cases h16 : (xs (nI i).toNatClampNeg &&& (31 : Int32)) = 16
  · rw [if_pos h16]
    exact same_go (s_entry _ _) hσ (fun τ => L_law_18 L xs 0 299 k n (nI (i + 7)) τ)
  rw [if_neg h16]
  by_cases h17 : (xs (nI i).toNatClampNeg &&& (31 : Int32)) = 17
  · rw [if_pos h17]
    exact same_go (s_delivered _ _ _) hσ (fun τ => L_law_18 L xs 0 299 k n (nI (i + 7)) τ)
  rw [if_neg h17]
  by_cases h18 : (xs (nI i).toNatClampNeg &&& (31 : Int32)) = 18
  · rw [if_pos h18]
    exact same_go (s_nextDeadline) hσ (fun τ => L_law_18 L xs 0 299 k n (nI (i + 7)) τ)
  rw [if_neg h18]
  by_cases h19 : (xs (nI i).toNatClampNeg &&& (31 : Int32)) = 19
  · rw [if_pos h19]
    exact same_go (s_forecastWakes _ _) hσ (fun τ => L_law_18 L xs 0 299 k n (nI (i + 7)) τ)
  rw [if_neg h19]
  by_cases h20 : (xs (nI i).toNatClampNeg &&& (31 : Int32)) = 20
  · rw [if_pos h20]
    exact same_go (s_smallestCapacity _) hσ (fun τ => L_law_18 L xs 0 299 k n (nI (i + 7)) τ)
  rw [if_neg h20]
  by_cases h21 : (xs (nI i).toNatClampNeg &&& (31 : Int32)) = 21
  · rw [if_pos h21]
    exact same_go (s_tightestClient _) hσ (fun τ => L_law_18 L xs 0 299 k n (nI (i + 7)) τ)
  rw [if_neg h21]
  exact ⟨σ, rfl, hσ⟩
theorem law_run {L : Nat} {xs : Nat → Int32} (hL : L ≤ 3584) : ∀ (j i n : Nat) (σ : Mem), 7 * j + i ≤ L → L < 7 * j + i + 7 → j < n → Inv σ → ∃ σ', L_law_18 L xs 0 299 (fun τ => some ((), τ)) n (nI i) σ = some ((), σ') := by
  intro j
  induction j with
  | zero =>
    intro i n σ h1 h2 hn hσ
    obtain ⟨n, rfl⟩ : ∃ m, n = m + 1 := ⟨n - 1, by omega⟩
    have hc : ((nI L) - (7 : Int32)) < nI i := by
      rw [Int32.lt_iff_toInt_lt, tS (by rw [nI_toInt (by omega)]; show _ ≤ (L : Int) - 7; omega) (by rw [nI_toInt (by omega)]; show (L : Int) - 7 < _; omega), nI_toInt (by omega), nI_toInt (by omega)]
      show (L : Int) - 7 < i
      omega
    refine ⟨σ, ?_⟩
    unfold L_law_18
    rw [if_pos hc]
  | succ j ih =>
    intro i n σ h1 h2 hn hσ
    obtain ⟨n, rfl⟩ : ∃ m, n = m + 1 := ⟨n - 1, by omega⟩
    obtain ⟨σ1, e1, h3⟩ := law_step (xs := xs) (k := fun τ => some ((), τ)) (n := n) hL (show i + 7 ≤ L by omega) hσ
    obtain ⟨σ2, e2⟩ := ih (i + 7) n σ1 (by omega) (by omega) (by omega) h3
    exact ⟨σ2, e1.trans e2⟩
theorem pure_law (L : Nat) (xs : Nat → Int32) (hL : L ≤ 3584) : ∃ σ', f_law L xs Z9 = some ((), σ') := by
  by_cases h : L < 7
  · obtain ⟨σ', e⟩ := law_run (xs := xs) hL 0 0 FU Z9 (by omega) (by omega) (by decide) inv_Z9
    exact ⟨σ', e⟩
  · obtain ⟨σ', e⟩ := law_run (xs := xs) hL (L / 7) 0 FU Z9 (by omega) (by omega) (by show L / 7 < 4096; omega) inv_Z9
    exact ⟨σ', e⟩
