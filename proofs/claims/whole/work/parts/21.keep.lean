/-! what the invariant looks at -/
theorem toNI {x : Int32} (h : 0 ≤ x.toInt) : x = nI x.toInt.toNat := by
  have h2 := tB x
  rw [tE, nI_toInt (by omega)]
  omega
theorem nS_le {S : Nat → Int32} {b : Int} (h : WG S b) : nS S ≤ 8 := by
  have := h.2.2.1
  unfold nS
  unfold gI at this
  omega
theorem RH_cong {σ σ' : Mem} {q : Nat} {S : Nat → Int32} (hn : nS S ≤ 8) (h : ∀ w, q ≤ w → w < q + 42 → σ' w = σ w) (hR : RH σ q S) : RH σ' q S := by
  obtain ⟨h1, h2, h3, h4, h5⟩ := hR
  refine ⟨?_, ?_, ?_, fun i hi => ?_, fun j hj => ?_⟩
  · unfold RG at h1 ⊢
    rw [h q (by omega) (by omega), h (q + 1) (by omega) (by omega)]
    exact h1
  · unfold RO at h2 ⊢
    rw [h (q + 4) (by omega) (by omega), h (q + 4 + 1) (by omega) (by omega), h (q + 4 + 2) (by omega) (by omega), h (q + 4 + 3) (by omega) (by omega)]
    exact h2
  · unfold RE at h3 ⊢
    rw [h (q + 8) (by omega) (by omega), h (q + 8 + 1) (by omega) (by omega)]
    exact h3
  · rw [h (q + 2 + (8 + 2 * i)) (by omega) (by omega), h (q + 2 + (8 + 2 * i) + 1) (by omega) (by omega)]
    exact h4 i hi
  · rw [h (q + 3 + (23 + 2 * j)) (by omega) (by omega), h (q + 3 + (23 + 2 * j) + 1) (by omega) (by omega)]
    exact h5 j hj
theorem FBq_cong {σ σ' : Mem} {q : Nat} (h : ∀ w, q ≤ w → w < q + 42 → σ' w = σ w) (hF : FBq σ q) : FBq σ' q := fun i hi => by
  rw [h _ (by omega) (by omega)]
  exact hF i hi
/-- the cells that count between calls are kept; the trial may have changed -/
theorem inv_keep {σ σ' : Mem} (h : ∀ w, w < 43 ∨ (85 ≤ w ∧ w < 303) → w ≠ 299 → σ' w = σ w) (h3 : σ' 299 3 = σ 299 3) (h5 : σ' 299 5 = σ 299 5) (hT : FBq σ' 43) (hI : Inv σ) : Inv σ' := by
  obtain ⟨⟨a1, a2, a3⟩, ⟨b1, b2, b3, b4⟩, ⟨c1, c2, c3⟩, f1, f2, f3⟩ := hI
  have e300 := h 300 (by omega) (by decide)
  have e301 := h 301 (by omega) (by decide)
  have e85 := h 85 (by omega) (by decide)
  have e297 := h 297 (by omega) (by decide)
  have e298 := h 298 (by omega) (by decide)
  have e302 := h 302 (by omega) (by decide)
  unfold Inv
  rw [e300, e301, e85, e297, e298, e302, h3, h5]
  refine ⟨⟨a1, a2, RH_cong (nS_le a1.1) (fun w hw1 hw2 => h w (by omega) (by omega)) a3⟩, ⟨b1, b2, b3, fun j hj => ?_⟩, ⟨c1, c2, c3⟩, FBq_cong (fun w _ _ => h w (by omega) (by omega)) f1, hT, fun r hr => FBq_cong (fun w _ _ => h w (by omega) (by omega)) (f3 r hr)⟩
  obtain ⟨d1, d2, d3⟩ := b4 j hj
  have hm : ((σ 85 1).toInt.toNat + 4 - j) % 5 < 5 := Nat.mod_lt _ (by decide)
  exact ⟨d1, d2, RH_cong (nS_le d1.1) (fun w hw1 hw2 => h w (by omega) (by omega)) d3⟩
/-- nothing but rows of the reference's own use has changed -/
theorem inv_kp {σ σ' : Mem} (h : ∀ w, w < 303 → w ≠ 299 → σ' w = σ w) (h3 : σ' 299 3 = σ 299 3) (h5 : σ' 299 5 = σ 299 5) (hI : Inv σ) : Inv σ' :=
  inv_keep (fun w hw hn => h w (by omega) hn) h3 h5 (FBq_cong (fun w _ _ => h w (by omega) (by omega)) hI.2.2.2.2.1) hI
/-- the reference notes at each call that nothing was thrown -/
theorem inv_thr {σ : Mem} {x : Int32} (hI : Inv σ) : Inv (wr σ 299 0 x) :=
  inv_kp (fun w _ hw => wr_other hw) (by simp [wr]) (by simp [wr]) hI
theorem isIn {x a c : Int32} {σ : Mem} : f_M_in x a c σ = some (if a ≤ x ∧ x ≤ c then 1 else 0, σ) := by
  unfold f_M_in
  by_cases h1 : x < a
  · have h2 : ¬ a ≤ x := by rw [Int32.le_iff_toInt_le]; rw [Int32.lt_iff_toInt_lt] at h1; omega
    simp [h1, h2]
  · have h2 : a ≤ x := by rw [Int32.le_iff_toInt_le]; rw [Int32.lt_iff_toInt_lt] at h1; omega
    by_cases h3 : c < x
    · have h4 : ¬ x ≤ c := by rw [Int32.le_iff_toInt_le]; rw [Int32.lt_iff_toInt_lt] at h3; omega
      simp [h1, h2, h3, h4]
    · have h4 : x ≤ c := by rw [Int32.le_iff_toInt_le]; rw [Int32.lt_iff_toInt_lt] at h3; omega
      simp [h1, h2, h3, h4]
/-- a number between two others, as whole numbers -/
theorem inR {x a c : Int32} : (a ≤ x ∧ x ≤ c) ↔ (a.toInt ≤ x.toInt ∧ x.toInt ≤ c.toInt) := by
  rw [Int32.le_iff_toInt_le, Int32.le_iff_toInt_le]
/-! places in the reference's row -/
theorem ibA {x : Int32} {n : Nat} (z : Int) (e : x.toInt = z) (h1 : 0 ≤ z) (h2 : z < n) : ib x n := by
  rw [← e] at h1 h2
  exact ⟨h1, h2⟩
theorem sensor0_s {q : Nat} {p1 p2 : Int32} {σ : Mem} (i k : Nat) (h1 : p1.toInt = i) (h2 : p2.toInt = k) (hi : i < 8) (hk : k < 19) : f_M_sensor0 q p1 p2 σ = some (σ (q + 1) (11 + 19 * i + k), σ) := by
  unfold f_M_sensor0
  have a1 : ((19 : Int32) * p1).toInt = 19 * i := by rw [tM (by rw [h1]; show _ ≤ (19 : Int) * i; omega) (by rw [h1]; show (19 : Int) * i < _; omega), h1]; rfl
  have a2 : ((11 : Int32) + (19 : Int32) * p1).toInt = 11 + 19 * i := by rw [tA (by rw [a1]; show _ ≤ (11 : Int) + _; omega) (by rw [a1]; show (11 : Int) + _ < _; omega), a1]; rfl
  have a3 : (((11 : Int32) + ((19 : Int32) * p1)) + p2).toInt = 11 + 19 * i + k := by rw [tA (by rw [a2, h2]; omega) (by rw [a2, h2]; omega), a2, h2]
  rw [if_pos (ibA _ a3 (by omega) (by omega))]
  have a4 : (((11 : Int32) + ((19 : Int32) * p1)) + p2).toNatClampNeg = 11 + 19 * i + k := by
    show (((11 : Int32) + ((19 : Int32) * p1)) + p2).toInt.toNat = _
    rw [a3]; omega
  rw [a4]
theorem client0_s {q : Nat} {p1 p2 : Int32} {σ : Mem} (i k : Nat) (h1 : p1.toInt = i) (h2 : p2.toInt = k) (hi : i < 8) (hk : k < 27) : f_M_client0 q p1 p2 σ = some (σ (q + 1) (163 + 27 * i + k), σ) := by
  unfold f_M_client0
  have a1 : ((27 : Int32) * p1).toInt = 27 * i := by rw [tM (by rw [h1]; show _ ≤ (27 : Int) * i; omega) (by rw [h1]; show (27 : Int) * i < _; omega), h1]; rfl
  have a2 : ((163 : Int32) + (27 : Int32) * p1).toInt = 163 + 27 * i := by rw [tA (by rw [a1]; show _ ≤ (163 : Int) + _; omega) (by rw [a1]; show (163 : Int) + _ < _; omega), a1]; rfl
  have a3 : (((163 : Int32) + ((27 : Int32) * p1)) + p2).toInt = 163 + 27 * i + k := by rw [tA (by rw [a2, h2]; omega) (by rw [a2, h2]; omega), a2, h2]
  rw [if_pos (ibA _ a3 (by omega) (by omega))]
  have a4 : (((163 : Int32) + ((27 : Int32) * p1)) + p2).toNatClampNeg = 163 + 27 * i + k := by
    show (((163 : Int32) + ((27 : Int32) * p1)) + p2).toInt.toNat = _
    rw [a3]; omega
  rw [a4]
theorem entryPart_s {q : Nat} {p1 p2 : Int32} {σ : Mem} (i k : Nat) (h1 : p1.toInt = i) (h2 : p2.toInt = k) (hi : i < 30) (hk : k < 3) : f_M_entryPart q p1 p2 σ = some (σ (q + 1) (391 + 3 * i + k), σ) := by
  unfold f_M_entryPart
  have a1 : ((3 : Int32) * p1).toInt = 3 * i := by rw [tM (by rw [h1]; show _ ≤ (3 : Int) * i; omega) (by rw [h1]; show (3 : Int) * i < _; omega), h1]; rfl
  have a2 : ((391 : Int32) + (3 : Int32) * p1).toInt = 391 + 3 * i := by rw [tA (by rw [a1]; show _ ≤ (391 : Int) + _; omega) (by rw [a1]; show (391 : Int) + _ < _; omega), a1]; rfl
  have a3 : (((391 : Int32) + ((3 : Int32) * p1)) + p2).toInt = 391 + 3 * i + k := by rw [tA (by rw [a2, h2]; omega) (by rw [a2, h2]; omega), a2, h2]
  rw [if_pos (ibA _ a3 (by omega) (by omega))]
  have a4 : (((391 : Int32) + ((3 : Int32) * p1)) + p2).toNatClampNeg = 391 + 3 * i + k := by
    show (((391 : Int32) + ((3 : Int32) * p1)) + p2).toInt.toNat = _
    rw [a3]; omega
  rw [a4]
/-! the class's cells, by their numbers -/
theorem clientAt_s {q : Nat} {p1 : Int32} {σ : Mem} (i : Nat) (h1 : p1.toInt = i) (hi : i < 8) : f_Hub_clientAt q p1 σ = some (if σ (q + 3 + (23 + 2 * i)) 0 = 0 then none else some (q + 3 + (23 + 2 * i)), σ) := by
  unfold f_Hub_clientAt
  have a1 : ¬ p1 < 0 := by rw [Int32.lt_iff_toInt_lt, h1]; show ¬ (i : Int) < 0; omega
  have a2 : ¬ (8 : Int32) ≤ p1 := by rw [Int32.le_iff_toInt_le, h1]; show ¬ (8 : Int) ≤ i; omega
  have a3 : p1.toNatClampNeg = i := by show p1.toInt.toNat = i; rw [h1]; rfl
  rw [if_neg a1, if_neg a2, if_pos (ibA _ h1 (by omega) (by omega)), a3]
  by_cases h : σ (q + 3 + (23 + 2 * i)) 0 = 0
  · rw [if_pos h, if_pos h]
  · rw [if_neg h, if_neg h]
theorem clientAt_n {q : Nat} {p1 : Int32} {σ : Mem} (h : ¬ (0 ≤ p1.toInt ∧ p1.toInt < 8)) : f_Hub_clientAt q p1 σ = some (none, σ) := by
  unfold f_Hub_clientAt
  by_cases a1 : p1 < 0
  · rw [if_pos a1]
  · have a2 : (8 : Int32) ≤ p1 := by
      rw [Int32.lt_iff_toInt_lt] at a1
      have z : (0 : Int32).toInt = 0 := rfl
      rw [Int32.le_iff_toInt_le]
      show (8 : Int) ≤ _
      omega
    rw [if_neg a1, if_pos a2]
theorem sensorAt_s {q : Nat} {p1 : Int32} {σ : Mem} (h4 : (σ q 4).toInt ≤ 8) : f_Hub_sensorAt q p1 σ = some (if 0 ≤ p1.toInt ∧ p1.toInt < (σ q 4).toInt then some (q + 2 + (8 + 2 * p1.toInt.toNat)) else none, σ) := by
  unfold f_Hub_sensorAt
  by_cases a1 : p1 < 0
  · rw [if_pos a1, if_neg (by rw [Int32.lt_iff_toInt_lt] at a1; have z : (0 : Int32).toInt = 0 := rfl; omega)]
  · rw [if_neg a1]
    rw [Int32.lt_iff_toInt_lt] at a1
    have z : (0 : Int32).toInt = 0 := rfl
    by_cases a2 : σ q 4 ≤ p1
    · rw [if_pos a2, if_neg (by rw [Int32.le_iff_toInt_le] at a2; omega)]
    · rw [if_neg a2]
      rw [Int32.le_iff_toInt_le] at a2
      have a3 : ¬ (8 : Int32) ≤ p1 := by
        rw [Int32.le_iff_toInt_le]
        show ¬ (8 : Int) ≤ _
        omega
      rw [if_neg a3, if_pos ⟨by omega, by omega⟩, if_pos ⟨by omega, by omega⟩]
      rfl
theorem part_s {q : Nat} {p1 p2 : Int32} {σ : Mem} (e p : Nat) (h1 : p1.toInt = e) (h2 : p2.toInt = p) (he : e < 30) (hp : p < 3) : f_Sto_part q p1 p2 σ = some (if (σ q 0).toInt ≤ e then -9 else σ (q + 1) (3 * e + p), σ) := by
  unfold f_Sto_part
  by_cases a1 : σ q 0 ≤ p1
  · rw [if_pos a1, if_pos (by rw [Int32.le_iff_toInt_le] at a1; omega)]
  · rw [if_neg a1, if_neg (by rw [Int32.le_iff_toInt_le] at a1; omega), isW, if_pos (inR.mpr ⟨by rw [h1]; show (0 : Int) ≤ _; omega, by rw [h1]; show _ ≤ (29 : Int); omega⟩)]
    simp only [bd]
    rw [if_neg (by decide), isW, if_pos (inR.mpr ⟨by rw [h2]; show (0 : Int) ≤ _; omega, by rw [h2]; show _ ≤ (2 : Int); omega⟩)]
    simp only [bd]
    have b1 : (p1 * (3 : Int32)).toInt = e * 3 := by rw [tM (by rw [h1]; show _ ≤ _ * (3 : Int); omega) (by rw [h1]; show _ * (3 : Int) < _; omega), h1]; rfl
    have b2 : ((p1 * (3 : Int32)) + p2).toInt = e * 3 + p := by rw [tA (by rw [b1, h2]; omega) (by rw [b1, h2]; omega), b1, h2]
    rw [if_neg (by decide), if_pos (ibA _ b2 (by omega) (by omega))]
    have b3 : ((p1 * (3 : Int32)) + p2).toNatClampNeg = 3 * e + p := by
      show ((p1 * (3 : Int32)) + p2).toInt.toNat = _
      rw [b2]; omega
    rw [b3]
