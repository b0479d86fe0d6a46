/-! a hub is copied -/
theorem cpy_row {σ : Mem} {v w n : Nat} : cpy σ v w n = wrow σ w (fun j => if j < n then σ v j else σ w j) := by
  funext b j
  unfold cpy wrow
  by_cases e : b = w
  · subst e
    by_cases h : j < n
    · rw [if_pos ⟨rfl, h⟩, if_pos rfl, if_pos h]
    · rw [if_neg (fun z => h z.2), if_pos rfl, if_neg h]
  · rw [if_neg (fun z => e z.1), if_neg e]
theorem sen_cp {q q1 : Nat} {σ : Mem} (h1 : q1 ≠ q) (h2 : q1 + 1 ≠ q) (h3 : q1 ≠ q + 1) (hb : σ q1 13 = 0 ∨ σ q1 13 = 1) : f_Sen_copyFrom q q1 σ = some ((), wrow (wrow σ q (fun k => if k < 17 then σ q1 k else σ q k)) (q + 1) (fun k => if k < 8 then σ (q1 + 1) k else σ (q + 1) k)) := by
  unfold f_Sen_copyFrom
  have hc : σ q1 13 &&& 1 = σ q1 13 := by rcases hb with h | h <;> rw [h] <;> decide
  have n1 : q + 1 ≠ q := by omega
  simp only [lt_eq, wr_row, wrow_h, wrow_2, wrow_m h1, if_pos hc, cpy_row, wrow_m h2, wrow_m n1]
  refine congrArg (fun f => some ((), wrow (wrow σ q f) (q + 1) (fun k => if k < 8 then σ (q1 + 1) k else σ (q + 1) k))) ?_
  funext k
  by_cases hk : k < 17
  · rw [if_pos hk]
    rcases (by omega : k = 0 ∨ k = 1 ∨ k = 2 ∨ k = 3 ∨ k = 4 ∨ k = 5 ∨ k = 6 ∨ k = 7 ∨ k = 8 ∨ k = 9 ∨ k = 10 ∨ k = 11 ∨ k = 12 ∨ k = 13 ∨ k = 14 ∨ k = 15 ∨ k = 16) with rfl | rfl | rfl | rfl | rfl | rfl | rfl | rfl | rfl | rfl | rfl | rfl | rfl | rfl | rfl | rfl | rfl <;> simp [upS]
  · rw [if_neg hk]
    simp (disch := omega) only [upS_m]
theorem cli_cp {q q1 : Nat} {σ : Mem} (h1 : q1 ≠ q) (h2 : q1 + 1 ≠ q) (h3 : q1 ≠ q + 1) (hb : σ q1 0 = 0 ∨ σ q1 0 = 1) : f_Cli_copyFrom q q1 σ = some ((), wrow (wrow σ q (fun k => if k < 10 then σ q1 k else σ q k)) (q + 1) (fun k => if k < 18 then σ (q1 + 1) k else σ (q + 1) k)) := by
  unfold f_Cli_copyFrom
  have hc : σ q1 0 &&& 1 = σ q1 0 := by rcases hb with h | h <;> rw [h] <;> decide
  have n1 : q + 1 ≠ q := by omega
  rw [if_pos hc]
  simp only [lt_eq, wr_row, wrow_h, wrow_2, wrow_m h1, cpy_row, wrow_m h2, wrow_m n1]
  refine congrArg (fun f => some ((), wrow (wrow σ q f) (q + 1) (fun k => if k < 18 then σ (q1 + 1) k else σ (q + 1) k))) ?_
  funext k
  by_cases hk : k < 10
  · rw [if_pos hk]
    rcases (by omega : k = 0 ∨ k = 1 ∨ k = 2 ∨ k = 3 ∨ k = 4 ∨ k = 5 ∨ k = 6 ∨ k = 7 ∨ k = 8 ∨ k = 9) with rfl | rfl | rfl | rfl | rfl | rfl | rfl | rfl | rfl | rfl <;> simp [upS]
  · rw [if_neg hk]
    simp (disch := omega) only [upS_m]
theorem sensorRoom_nI {q i : Nat} {σ : Mem} (h : i < 8) : f_Hub_sensorRoom q (nI i) σ = some (some (q + 2 + (8 + 2 * i)), σ) := by
  unfold f_Hub_sensorRoom
  rw [isW]
  have h1 : (0 : Int32) ≤ nI i ∧ nI i ≤ (7 : Int32) := ⟨(nI_leI (a := 0) (b := i) (by omega) (by omega)).mpr (by omega), (nI_leI (a := i) (b := 7) (by omega) (by omega)).mpr (by omega)⟩
  rw [if_pos h1]
  simp only [bd]
  rw [if_neg (by decide), if_pos (ib_nI h (by omega)), nI_clamp (by omega)]
/-- the copy of a hub: what stands at q now stood at q1 -/
def CP (σ' σ : Mem) (q q1 : Nat) : Prop := (∀ k, k < 5 → σ' q k = σ q1 k) ∧ (∀ k, k < 4 → σ' (q + 1) k = σ (q1 + 1) k) ∧ (σ' (q + 4) 0 = σ (q1 + 4) 0 ∧ ∀ k, k < 4 → σ' (q + 4 + 1) k = σ (q1 + 4 + 1) k ∧ σ' (q + 4 + 2) k = σ (q1 + 4 + 2) k ∧ σ' (q + 4 + 3) k = σ (q1 + 4 + 3) k) ∧ (σ' (q + 8) 0 = σ (q1 + 8) 0 ∧ ∀ k, k < 90 → σ' (q + 8 + 1) k = σ (q1 + 8 + 1) k) ∧ (∀ i, i < 8 → (∀ k, k < 17 → σ' (q + 2 + (8 + 2 * i)) k = σ (q1 + 2 + (8 + 2 * i)) k) ∧ ∀ k, k < 8 → σ' (q + 2 + (8 + 2 * i) + 1) k = σ (q1 + 2 + (8 + 2 * i) + 1) k) ∧ ∀ j, j < 8 → (∀ k, k < 10 → σ' (q + 3 + (23 + 2 * j)) k = σ (q1 + 3 + (23 + 2 * j)) k) ∧ ∀ k, k < 18 → σ' (q + 3 + (23 + 2 * j) + 1) k = σ (q1 + 3 + (23 + 2 * j) + 1) k
theorem cp_sens {σ : Mem} {q q1 : Nat} {K : Mem → Option (Unit × Mem)} (hd : q + 42 ≤ q1 ∨ q1 + 42 ≤ q) (hB : FBq σ q1) : ∃ σ', L_Hub_copyFrom_78 q q1 K FU 0 σ = K σ' ∧ (∀ w, (w < q + 10 ∨ q + 26 ≤ w) → σ' w = σ w) ∧ ∀ m, m < 8 → (∀ k, k < 17 → σ' (q + 2 + (8 + 2 * m)) k = σ (q1 + 2 + (8 + 2 * m)) k) ∧ ∀ k, k < 8 → σ' (q + 2 + (8 + 2 * m) + 1) k = σ (q1 + 2 + (8 + 2 * m) + 1) k := by
  obtain ⟨σ', e, hI⟩ := loopR (L_Hub_copyFrom_78 q q1 K) K 8 (fun i τ => (∀ w, (w < q + 10 ∨ q + 10 + 2 * i ≤ w) → τ w = σ w) ∧ ∀ m, m < i → (∀ k, k < 17 → τ (q + 2 + (8 + 2 * m)) k = σ (q1 + 2 + (8 + 2 * m)) k) ∧ ∀ k, k < 8 → τ (q + 2 + (8 + 2 * m) + 1) k = σ (q1 + 2 + (8 + 2 * m) + 1) k)
    (fun n τ _ => by show (if (8 : Int32) ≤ nI 8 then _ else _) = _; rw [if_pos (by decide)])
    (fun n i τ hi hI => by
      obtain ⟨i1, i2⟩ := hI
      have s1 : τ (q1 + 2 + (8 + 2 * i)) = σ (q1 + 2 + (8 + 2 * i)) := i1 _ (by omega)
      have s2 : τ (q1 + 2 + (8 + 2 * i) + 1) = σ (q1 + 2 + (8 + 2 * i) + 1) := i1 _ (by omega)
      have hcp := sen_cp (q := q + 2 + (8 + 2 * i)) (q1 := q1 + 2 + (8 + 2 * i)) (σ := τ) (by omega) (by omega) (by omega) (by rw [s1]; exact hB i hi)
      rw [s1, s2] at hcp
      have hst : L_Hub_copyFrom_78 q q1 K (n + 1) (nI i) τ = L_Hub_copyFrom_78 q q1 K n (nI (i + 1)) (wrow (wrow τ (q + 2 + (8 + 2 * i)) (fun k => if k < 17 then σ (q1 + 2 + (8 + 2 * i)) k else τ (q + 2 + (8 + 2 * i)) k)) (q + 2 + (8 + 2 * i) + 1) (fun k => if k < 8 then σ (q1 + 2 + (8 + 2 * i) + 1) k else τ (q + 2 + (8 + 2 * i) + 1) k)) := by
        show (if (8 : Int32) ≤ nI i then _ else _) = _
        rw [if_neg (ge8 hi), bd_eq (sensorRoom_nI hi), oe_some, bd_eq (sensorRoom_nI hi), oe_some, bd_eq hcp, ← nI_succ]
      refine ⟨_, hst, fun w hw => ?_, fun m hm => ?_⟩
      · rw [wrow_m (by omega), wrow_m (by omega)]
        exact i1 w (by omega)
      · by_cases e : m = i
        · subst e
          refine ⟨fun k hk => ?_, fun k hk => ?_⟩
          · rw [wrow_m (by omega), wrow_h]
            exact if_pos hk
          · rw [wrow_h]
            exact if_pos hk
        · rw [wrow_m (by omega), wrow_m (by omega), wrow_m (by omega), wrow_m (by omega)]
          exact i2 m (by omega)) 8 0 FU σ rfl (by decide) ⟨fun _ _ => rfl, fun m hm => by omega⟩
  exact ⟨σ', e, fun w hw => hI.1 w (by omega), hI.2⟩
theorem cp_clis {σ : Mem} {q q1 : Nat} {K : Mem → Option (Unit × Mem)} (hd : q + 42 ≤ q1 ∨ q1 + 42 ≤ q) (hB : ∀ j, j < 8 → σ (q1 + 3 + (23 + 2 * j)) 0 = 0 ∨ σ (q1 + 3 + (23 + 2 * j)) 0 = 1) : ∃ σ', L_Hub_copyFrom_120 q q1 K FU 0 σ = K σ' ∧ (∀ w, (w < q + 26 ∨ q + 42 ≤ w) → σ' w = σ w) ∧ ∀ m, m < 8 → (∀ k, k < 10 → σ' (q + 3 + (23 + 2 * m)) k = σ (q1 + 3 + (23 + 2 * m)) k) ∧ ∀ k, k < 18 → σ' (q + 3 + (23 + 2 * m) + 1) k = σ (q1 + 3 + (23 + 2 * m) + 1) k := by
  obtain ⟨σ', e, hI⟩ := loopR (L_Hub_copyFrom_120 q q1 K) K 8 (fun i τ => (∀ w, (w < q + 26 ∨ q + 26 + 2 * i ≤ w) → τ w = σ w) ∧ ∀ m, m < i → (∀ k, k < 10 → τ (q + 3 + (23 + 2 * m)) k = σ (q1 + 3 + (23 + 2 * m)) k) ∧ ∀ k, k < 18 → τ (q + 3 + (23 + 2 * m) + 1) k = σ (q1 + 3 + (23 + 2 * m) + 1) k)
    (fun n τ _ => by show (if (8 : Int32) ≤ nI 8 then _ else _) = _; rw [if_pos (by decide)])
    (fun n i τ hi hI => by
      obtain ⟨i1, i2⟩ := hI
      have s1 : τ (q1 + 3 + (23 + 2 * i)) = σ (q1 + 3 + (23 + 2 * i)) := i1 _ (by omega)
      have s2 : τ (q1 + 3 + (23 + 2 * i) + 1) = σ (q1 + 3 + (23 + 2 * i) + 1) := i1 _ (by omega)
      have hcp := cli_cp (q := q + 3 + (23 + 2 * i)) (q1 := q1 + 3 + (23 + 2 * i)) (σ := τ) (by omega) (by omega) (by omega) (by rw [s1]; exact hB i hi)
      rw [s1, s2] at hcp
      have hst : L_Hub_copyFrom_120 q q1 K (n + 1) (nI i) τ = L_Hub_copyFrom_120 q q1 K n (nI (i + 1)) (wrow (wrow τ (q + 3 + (23 + 2 * i)) (fun k => if k < 10 then σ (q1 + 3 + (23 + 2 * i)) k else τ (q + 3 + (23 + 2 * i)) k)) (q + 3 + (23 + 2 * i) + 1) (fun k => if k < 18 then σ (q1 + 3 + (23 + 2 * i) + 1) k else τ (q + 3 + (23 + 2 * i) + 1) k)) := by
        show (if (8 : Int32) ≤ nI i then _ else _) = _
        rw [if_neg (ge8 hi), bd_eq (clientRoom_nI hi), oe_some, bd_eq (clientRoom_nI hi), oe_some, bd_eq hcp, ← nI_succ]
      refine ⟨_, hst, fun w hw => ?_, fun m hm => ?_⟩
      · rw [wrow_m (by omega), wrow_m (by omega)]
        exact i1 w (by omega)
      · by_cases e : m = i
        · subst e
          refine ⟨fun k hk => ?_, fun k hk => ?_⟩
          · rw [wrow_m (by omega), wrow_h]
            exact if_pos hk
          · rw [wrow_h]
            exact if_pos hk
        · rw [wrow_m (by omega), wrow_m (by omega), wrow_m (by omega), wrow_m (by omega)]
          exact i2 m (by omega)) 8 0 FU σ rfl (by decide) ⟨fun _ _ => rfl, fun m hm => by omega⟩
  exact ⟨σ', e, fun w hw => hI.1 w (by omega), hI.2⟩
theorem cpy_in {σ : Mem} {v w n j : Nat} (h : j < n) : cpy σ v w n w j = σ v j := if_pos ⟨rfl, h⟩
theorem out_cp {q q1 : Nat} {σ : Mem} (hd : q + 4 ≤ q1 ∨ q1 + 4 ≤ q) : ∃ σ', f_Out_copyFrom q q1 σ = some ((), σ') ∧ (∀ w, (w < q ∨ q + 4 ≤ w) → σ' w = σ w) ∧ σ' q 0 = σ q1 0 ∧ ∀ k, k < 4 → σ' (q + 1) k = σ (q1 + 1) k ∧ σ' (q + 2) k = σ (q1 + 2) k ∧ σ' (q + 3) k = σ (q1 + 3) k := by
  unfold f_Out_copyFrom
  simp only [lt_eq]
  refine ⟨_, rfl, fun w hw => ?_, ?_, fun k hk => ⟨?_, ?_, ?_⟩⟩
  · rw [cpy_other (by omega), cpy_other (by omega), cpy_other (by omega), wr_other (by omega)]
  · rw [cpy_other (by omega), cpy_other (by omega), cpy_other (by omega), wr_h rfl rfl]
  · rw [cpy_other (b := q + 1) (by omega), cpy_other (b := q + 1) (by omega), cpy_in hk, wr_other (by omega)]
  · rw [cpy_other (b := q + 2) (by omega), cpy_in hk, cpy_other (b := q1 + 2) (by omega), wr_other (by omega)]
  · rw [cpy_in hk, cpy_other (b := q1 + 3) (by omega), cpy_other (b := q1 + 3) (by omega), wr_other (by omega)]
theorem sto_cp {q q1 : Nat} {σ : Mem} (hd : q + 2 ≤ q1 ∨ q1 + 2 ≤ q) : ∃ σ', f_Sto_copyFrom q q1 σ = some ((), σ') ∧ (∀ w, (w < q ∨ q + 2 ≤ w) → σ' w = σ w) ∧ σ' q 0 = σ q1 0 ∧ ∀ k, k < 90 → σ' (q + 1) k = σ (q1 + 1) k := by
  unfold f_Sto_copyFrom
  simp only [lt_eq]
  refine ⟨_, rfl, fun w hw => ?_, ?_, fun k hk => ?_⟩
  · rw [cpy_other (by omega), wr_other (by omega)]
  · rw [cpy_other (by omega), wr_h rfl rfl]
  · rw [cpy_in hk, wr_other (by omega)]
def preC (q q1 : Nat) (σ : Mem) (K : Mem → Option (Unit × Mem)) : Option (Unit × Mem) :=
  lt (wr σ q 0 (σ q1 0)) fun σ1 =>
  lt (wr σ1 q 1 (σ1 q1 1)) fun σ2 =>
  lt (wr σ2 q 2 (σ2 q1 2)) fun σ3 =>
  lt (wr σ3 q 3 (σ3 q1 3)) fun σ4 =>
  lt (wr σ4 q 4 (σ4 q1 4)) fun σ5 =>
  lt (cpy σ5 (q1 + 1) (q + 1) 4) fun σ6 =>
  bd (f_Out_copyFrom (q + 4) (q1 + 4) σ6) fun _ σ8 =>
  bd (f_Sto_copyFrom (q + 8) (q1 + 8) σ8) fun _ σ10 => K σ10
theorem preC_X {q q1 : Nat} {σ : Mem} (hd : q + 42 ≤ q1 ∨ q1 + 42 ≤ q) : ∃ τ, (∀ K, preC q q1 σ K = K τ) ∧ (∀ w, (w < q ∨ q + 10 ≤ w) → τ w = σ w) ∧ (∀ k, k < 5 → τ q k = σ q1 k) ∧ (∀ k, k < 4 → τ (q + 1) k = σ (q1 + 1) k) ∧ τ (q + 4) 0 = σ (q1 + 4) 0 ∧ (∀ k, k < 4 → τ (q + 4 + 1) k = σ (q1 + 4 + 1) k ∧ τ (q + 4 + 2) k = σ (q1 + 4 + 2) k ∧ τ (q + 4 + 3) k = σ (q1 + 4 + 3) k) ∧ τ (q + 8) 0 = σ (q1 + 8) 0 ∧ ∀ k, k < 90 → τ (q + 8 + 1) k = σ (q1 + 8 + 1) k := by
  unfold preC
  simp only [lt_eq]
  generalize hA : wr (wr (wr (wr (wr σ q 0 _) q 1 _) q 2 _) q 3 _) q 4 _ = σa
  have a1 : ∀ w, w ≠ q → σa w = σ w := fun w hw => by
    rw [← hA, wr_other hw, wr_other hw, wr_other hw, wr_other hw, wr_other hw]
  have n0 : q1 ≠ q := by omega
  have a2 : ∀ k, k < 5 → σa q k = σ q1 k := fun k hk => by
    rw [← hA]
    rcases (by omega : k = 0 ∨ k = 1 ∨ k = 2 ∨ k = 3 ∨ k = 4) with rfl | rfl | rfl | rfl | rfl
    · rw [wr_m (by omega), wr_m (by omega), wr_m (by omega), wr_m (by omega), wr_h rfl rfl]
    · rw [wr_m (by omega), wr_m (by omega), wr_m (by omega), wr_h rfl rfl, wr_other n0]
    · rw [wr_m (by omega), wr_m (by omega), wr_h rfl rfl, wr_other n0, wr_other n0]
    · rw [wr_m (by omega), wr_h rfl rfl, wr_other n0, wr_other n0, wr_other n0]
    · rw [wr_h rfl rfl, wr_other n0, wr_other n0, wr_other n0, wr_other n0]
  clear hA
  obtain ⟨σb, b1, b2, b3, b4⟩ := out_cp (q := q + 4) (q1 := q1 + 4) (σ := cpy σa (q1 + 1) (q + 1) 4) (by omega)
  obtain ⟨τ, c1, c2, c3, c4⟩ := sto_cp (q := q + 8) (q1 := q1 + 8) (σ := σb) (by omega)
  have e0 : ∀ w, (w < q ∨ q + 10 ≤ w) → τ w = σ w := fun w hw => by
    rw [c2 w (by omega), b2 w (by omega), cpy_other (by omega), a1 w (by omega)]
  have k0 : ∀ k, k < 5 → τ q k = σ q1 k := fun k hk => by
    rw [c2 q (by omega), b2 q (by omega), cpy_other (by omega)]
    exact a2 k hk
  have k1 : ∀ k, k < 4 → τ (q + 1) k = σ (q1 + 1) k := fun k hk => by
    rw [c2 (q + 1) (by omega), b2 (q + 1) (by omega), cpy_in hk, a1 (q1 + 1) (by omega)]
  have k4 : τ (q + 4) 0 = σ (q1 + 4) 0 := by
    rw [c2 (q + 4) (by omega), b3, cpy_other (by omega), a1 _ (by omega)]
  have k5 : ∀ k, k < 4 → τ (q + 4 + 1) k = σ (q1 + 4 + 1) k ∧ τ (q + 4 + 2) k = σ (q1 + 4 + 2) k ∧ τ (q + 4 + 3) k = σ (q1 + 4 + 3) k := fun k hk => by
    have h := b4 k hk
    rw [cpy_other (b := q1 + 4 + 1) (by omega), cpy_other (b := q1 + 4 + 2) (by omega), cpy_other (b := q1 + 4 + 3) (by omega), a1 (q1 + 4 + 1) (by omega), a1 (q1 + 4 + 2) (by omega), a1 (q1 + 4 + 3) (by omega)] at h
    rw [c2 (q + 4 + 1) (by omega), c2 (q + 4 + 2) (by omega), c2 (q + 4 + 3) (by omega)]
    exact h
  have k8 : τ (q + 8) 0 = σ (q1 + 8) 0 := by
    rw [c3, b2 _ (by omega), cpy_other (by omega), a1 _ (by omega)]
  have k9 : ∀ k, k < 90 → τ (q + 8 + 1) k = σ (q1 + 8 + 1) k := fun k hk => by
    rw [c4 k hk, b2 _ (by omega), cpy_other (by omega), a1 _ (by omega)]
  exact ⟨τ, fun K => by rw [bd_eq b1, bd_eq c1], e0, k0, k1, k4, k5, k8, k9⟩
theorem copy_X {σ : Mem} {q q1 : Nat} (hd : q + 42 ≤ q1 ∨ q1 + 42 ≤ q) (hB : FBq σ q1) (hC : ∀ j, j < 8 → σ (q1 + 3 + (23 + 2 * j)) 0 = 0 ∨ σ (q1 + 3 + (23 + 2 * j)) 0 = 1) : ∃ σ', f_Hub_copyFrom q q1 σ = some ((), σ') ∧ (∀ w, (w < q ∨ q + 42 ≤ w) → σ' w = σ w) ∧ CP σ' σ q q1 := by
  obtain ⟨τ, hp, e0, k0, k1, k4, k5, k8, k9⟩ := preC_X (σ := σ) hd
  have hB' : FBq τ q1 := fun i hi => by rw [e0 _ (by omega)]; exact hB i hi
  obtain ⟨σ1, f1, f2, f3⟩ := cp_sens (K := fun σ22 => L_Hub_copyFrom_120 q q1 (fun σ34 => some ((), σ34)) FU (0 : Int32) σ22) hd hB'
  obtain ⟨σ2, g1, g2, g3⟩ := cp_clis (σ := σ1) (K := fun σ34 => some ((), σ34)) hd (fun j hj => by rw [f2 _ (by omega), e0 _ (by omega)]; exact hC j hj)
  have hfin : f_Hub_copyFrom q q1 σ = some ((), σ2) := by
    have h1 : f_Hub_copyFrom q q1 σ = preC q q1 σ (fun σ10 => L_Hub_copyFrom_78 q q1 (fun σ22 => L_Hub_copyFrom_120 q q1 (fun σ34 => some ((), σ34)) FU (0 : Int32) σ22) FU (0 : Int32) σ10) := by
      unfold f_Hub_copyFrom preC
      rfl
    rw [h1, hp, f1, g1]
  refine ⟨σ2, hfin, fun w hw => ?_, ?_, ?_, ⟨?_, ?_⟩, ⟨?_, ?_⟩, fun i hi => ?_, fun j hj => ?_⟩
  · rw [g2 w (by omega), f2 w (by omega), e0 w (by omega)]
  · intro k hk
    rw [g2 q (by omega), f2 q (by omega)]
    exact k0 k hk
  · intro k hk
    rw [g2 _ (by omega), f2 _ (by omega)]
    exact k1 k hk
  · rw [g2 _ (by omega), f2 _ (by omega)]
    exact k4
  · intro k hk
    rw [g2 (q + 4 + 1) (by omega), f2 (q + 4 + 1) (by omega), g2 (q + 4 + 2) (by omega), f2 (q + 4 + 2) (by omega), g2 (q + 4 + 3) (by omega), f2 (q + 4 + 3) (by omega)]
    exact k5 k hk
  · rw [g2 _ (by omega), f2 _ (by omega)]
    exact k8
  · intro k hk
    rw [g2 _ (by omega), f2 _ (by omega)]
    exact k9 k hk
  · have h := f3 i hi
    rw [g2 (q + 2 + (8 + 2 * i)) (by omega), g2 (q + 2 + (8 + 2 * i) + 1) (by omega)]
    rw [e0 (q1 + 2 + (8 + 2 * i)) (by omega), e0 (q1 + 2 + (8 + 2 * i) + 1) (by omega)] at h
    exact h
  · have h := g3 j hj
    rw [f2 (q1 + 3 + (23 + 2 * j)) (by omega), f2 (q1 + 3 + (23 + 2 * j) + 1) (by omega), e0 (q1 + 3 + (23 + 2 * j)) (by omega), e0 (q1 + 3 + (23 + 2 * j) + 1) (by omega)] at h
    exact h
theorem CP_FB {σ σ' : Mem} {q q1 : Nat} (h : CP σ' σ q q1) (hB : FBq σ q1) : FBq σ' q := fun i hi => by
  rw [(h.2.2.2.2.1 i hi).1 13 (by decide)]
  exact hB i hi
theorem CP_RH {σ σ' : Mem} {q q1 : Nat} {S : Nat → Int32} {b : Int} (hG : WG S b) (h : CP σ' σ q q1) (hR : RH σ q1 S) : RH σ' q S := by
  obtain ⟨c0, c1, ⟨c4, c5⟩, ⟨c8, c9⟩, cs, cc⟩ := h
  have h8 := nS_le hG
  have h2 := hG.2.2.2.1
  have h3 := hG.2.2.2.2.1
  obtain ⟨hRG, hRO, hRE, hRRS, hRCS⟩ := hR
  refine ⟨?_, ?_, ?_, fun i hi => ?_, fun j hj => ?_⟩
  · unfold RG at hRG ⊢
    rw [c0 0 (by decide), c0 1 (by decide), c0 2 (by decide), c0 3 (by decide), c0 4 (by decide)]
    refine ⟨hRG.1, hRG.2.1, hRG.2.2.1, hRG.2.2.2.1, hRG.2.2.2.2.1, fun c hc => ?_⟩
    rw [c1 c hc]
    exact hRG.2.2.2.2.2 c hc
  · refine ⟨c4.trans hRO.1, fun o ho => ?_⟩
    obtain ⟨d1, d2, d3⟩ := c5 o (by omega)
    rw [d1, d2, d3]
    exact hRO.2 o ho
  · refine ⟨c8.trans hRE.1, fun e p he hp => ?_⟩
    rw [c9 (3 * e + p) (by omega)]
    exact hRE.2 e p he hp
  · obtain ⟨s1, s2⟩ := cs i (by omega)
    obtain ⟨hP, hr, hD⟩ := hRRS i hi
    refine ⟨?_, ?_, ?_⟩
    · unfold RP at hP ⊢
      rw [s1 0 (by decide), s1 1 (by decide), s1 2 (by decide), s1 3 (by decide), s1 4 (by decide), s1 5 (by decide), s1 6 (by decide), s1 7 (by decide), s1 8 (by decide), s1 9 (by decide)]
      exact hP
    · unfold RR at hr ⊢
      rw [s1 12 (by decide), s1 14 (by decide), s1 15 (by decide), s1 16 (by decide)]
      refine ⟨hr.1, hr.2.1, hr.2.2.1, fun k hk hg => ?_⟩
      rw [s2 k hk]
      exact hr.2.2.2 k hk hg
    · unfold RD at hD ⊢
      rw [s1 10 (by decide), s1 11 (by decide)]
      exact hD
  · obtain ⟨s1, s2⟩ := cc j hj
    obtain ⟨hc, hk⟩ := hRCS j hj
    refine ⟨?_, ?_⟩
    · unfold RC at hc ⊢
      rw [s1 0 (by decide), s1 1 (by decide), s1 2 (by decide), s1 3 (by decide), s1 5 (by decide), s1 6 (by decide), s1 7 (by decide), s1 8 (by decide), s1 9 (by decide)]
      refine ⟨hc.1, fun h1 => ⟨(hc.2 h1).1, fun d p hd hdD hp => ?_⟩⟩
      have hm : ((gI S (168 + 27 * j)).toNat - 1 - d) % 6 < 6 := Nat.mod_lt _ (by decide)
      rw [s2 _ (by omega)]
      exact (hc.2 h1).2 d p hd hdD hp
    · unfold RK at hk ⊢
      rw [s1 4 (by decide)]
      exact hk
/-- whether a client is there is 0 or 1 in the class too -/
theorem RH_pres {σ : Mem} {q : Nat} {S : Nat → Int32} {tS tC : Nat → Int} {b : Int} (hW : WX S tS tC b) (hR : RH σ q S) : ∀ j, j < 8 → σ (q + 3 + (23 + 2 * j)) 0 = 0 ∨ σ (q + 3 + (23 + 2 * j)) 0 = 1 := fun j hj => by
  rw [(hR.2.2.2.2 j hj).1.1]
  rcases hW.2.2.1 j hj with h | h
  · exact Or.inl h
  · exact Or.inr h.1
