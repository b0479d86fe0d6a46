/-! an entry is delivered, on the class's side -/
theorem fmod_n {a d : Nat} {σ : Mem} (ha : a < 2 ^ 31) (h0 : 0 < d) (hd : d < 2 ^ 31) : f_Mat_floorMod (nI a) (nI d) σ = some (nI (a % d), σ) := by
  have e : (nI d).toInt = d := nI_toInt hd
  rw [fmod_s (by rw [e]; omega), nI_toInt ha, e]
  have hm : a % d < d := Nat.mod_lt _ h0
  have e2 : Int32.ofInt ((a : Int) % (d : Int)) = nI (a % d) := by
    rw [tE, tO (by omega) (by omega), nI_toInt (by omega)]
    rfl
  rw [e2]
theorem max_s {x y : Int32} {σ : Mem} : f_Mat_max x y σ = some (if x < y then y else x, σ) := by
  unfold f_Mat_max
  split <;> rfl
theorem min_s {x y : Int32} {σ : Mem} : f_Mat_min x y σ = some (if y < x then y else x, σ) := by
  unfold f_Mat_min
  split <;> rfl
theorem m9T : (-9 : Int32).toInt = -9 := by decide
theorem m8T : (-8 : Int32).toInt = -8 := by decide
theorem z0T : (0 : Int32).toInt = 0 := by decide
def agX (now st : Int32) : Int32 := if 0 < now - st then now - st else 0
def rcA (a : Nat → Int32) (D : Nat) (st v now : Int32) : Nat → Int32 := upS (upS (upS a 6 (nI (D + 1))) 7 (a 7 + (if v = -8 then 1 else 0))) 8 (if a 8 < agX now st then agX now st else a 8)
def rcR (r : Nat → Int32) (D : Nat) (st v now : Int32) : Nat → Int32 := upS (upS (upS r (D % 6 * 3) st) (D % 6 * 3 + 1) v) (D % 6 * 3 + 2) now
theorem rcv_X {o D : Nat} {σ : Mem} {st v now : Int32} (hD : σ o 6 = nI D) (h : D + 1 < 2 ^ 31) : f_Cli_receive o st v now σ = some ((), wrow (wrow σ (o + 1) (rcR (σ (o + 1)) D st v now)) o (rcA (σ o) D st v now)) := by
  have hm : D % 6 < 6 := Nat.mod_lt _ (by decide)
  have b0 : ∀ k : Int32 → Mem → Option (Unit × Mem), bd (f_Mat_floorMod (σ o 6) 6 σ) k = k (nI (D % 6)) σ := bd_eq (by rw [hD]; exact fmod_n (d := 6) (by omega) (by decide) (by decide))
  have b1 : ∀ (x y : Int32) (τ : Mem) (k : Int32 → Mem → Option (Unit × Mem)), bd (f_Mat_max x y τ) k = k (if x < y then y else x) τ := fun x y τ => bd_eq max_s
  unfold f_Cli_receive
  simp (disch := omega) only [↓b0, ↓b1, ↓lt_eq, nI_mL, nI_aL, ib_T, nI_clamp, ↓reduceIte, wr_row, wrow_h, wrow_2, wrow_m, hD]
  unfold rcA rcR agX
  by_cases h1 : v = -8
  · simp (disch := omega) only [h1, if_true, upS_m, upS_h]
  · have e : upS (upS (σ o) 6 (nI (D + 1))) 7 (σ o 7 + 0) = upS (σ o) 6 (nI (D + 1)) := by
      funext j
      unfold upS
      by_cases e7 : j = 7
      · subst e7
        simp
      · rw [if_neg e7]
    simp (disch := omega) only [h1, if_false, upS_m, upS_h, e]
theorem rcv_RC {a r : Nat → Int32} {S : Nat → Int32} {j : Nat} {st v : Int32} (h1 : S (163 + 27 * j) = 1) (hD : 0 ≤ gI S (168 + 27 * j) ∧ gI S (168 + 27 * j) < 1000000) (hA : 0 ≤ gI S (170 + 27 * j) ∧ (S (168 + 27 * j) = 0 → S (170 + 27 * j) = 0)) (h0 : 0 ≤ gI S 0 ∧ gI S 0 ≤ 10499) (hs : 0 ≤ st.toInt ∧ st.toInt ≤ 5000000) (h : RC a r S j) : RC (rcA a (S (168 + 27 * j)).toInt.toNat st v (S 0)) (rcR r (S (168 + 27 * j)).toInt.toNat st v (S 0)) (dlvS S j st v) j := by
  obtain ⟨a0, hr⟩ := h
  obtain ⟨⟨a1, a2, a3, a5, a6, a7, a9, a8⟩, al⟩ := hr h1
  have e168 : S (168 + 27 * j) = nI (S (168 + 27 * j)).toInt.toNat := toNI hD.1
  unfold gI at *
  have hDn : (S (168 + 27 * j)).toInt = ((S (168 + 27 * j)).toInt.toNat : Int) := by omega
  generalize (S (168 + 27 * j)).toInt.toNat = D at *
  have hDl : D < 1000000 := by omega
  have ag : agX (S 0) st = ageS S st := by
    unfold agX ageS
    have es : (S 0 - st).toInt = (S 0).toInt - st.toInt := tS (by omega) (by omega)
    have z : (0 : Int32).toInt = 0 := rfl
    by_cases hc : S 0 ≤ st
    · rw [if_pos hc, if_neg (by rw [Int32.lt_iff_toInt_lt, es]; rw [Int32.le_iff_toInt_le] at hc; omega)]
    · rw [if_neg hc, if_pos (by rw [Int32.lt_iff_toInt_lt, es]; rw [Int32.le_iff_toInt_le] at hc; omega)]
  have ag0 : 0 ≤ (ageS S st).toInt := by
    unfold ageS
    have es : (S 0 - st).toInt = (S 0).toInt - st.toInt := tS (by omega) (by omega)
    split
    · rw [z0T]; omega
    · rename_i hc
      rw [Int32.le_iff_toInt_le] at hc
      omega
  have d0 : dlvS S j st v (163 + 27 * j) = S (163 + 27 * j) := dlvS_m (by omega)
  have d1 : dlvS S j st v (164 + 27 * j) = S (164 + 27 * j) := dlvS_m (by omega)
  have d2 : dlvS S j st v (165 + 27 * j) = S (165 + 27 * j) := dlvS_m (by omega)
  have d3 : dlvS S j st v (166 + 27 * j) = S (166 + 27 * j) := dlvS_m (by omega)
  have d4 : dlvS S j st v (167 + 27 * j) = S (167 + 27 * j) := dlvS_m (by omega)
  have d8 : dlvS S j st v (171 + 27 * j) = S (171 + 27 * j) := dlvS_m (by omega)
  have d5 : dlvS S j st v (168 + 27 * j) = nI (D + 1) := by
    unfold dlvS
    simp (disch := omega) only [upS_m, shS_m]
    rw [upS_h (by omega), show 163 + 27 * j + 5 = 168 + 27 * j by omega, e168, ← nI_succ]
  have d6 : dlvS S j st v (169 + 27 * j) = S (169 + 27 * j) + (if v = -8 then 1 else 0) := by
    unfold dlvS
    simp (disch := omega) only [upS_m, shS_m]
    rw [upS_h (by omega), show 163 + 27 * j + 6 = 169 + 27 * j by omega]
  have d7 : dlvS S j st v (170 + 27 * j) = if S (170 + 27 * j) ≤ ageS S st then ageS S st else S (170 + 27 * j) := by
    unfold dlvS
    simp (disch := omega) only [upS_m, shS_m]
    rw [upS_h (by omega), show 163 + 27 * j + 7 = 170 + 27 * j by omega]
  refine ⟨?_, fun _ => ⟨⟨?_, ?_, ?_, ?_, ?_, ?_, ?_, ?_⟩, ?_⟩⟩
  · rw [d0, ← a0]; rfl
  · rw [d1, ← a1]; rfl
  · rw [d2, ← a2]; rfl
  · rw [d3, ← a3]; rfl
  · rw [d4, ← a5]; rfl
  · rw [d5]; rfl
  · rw [d6, ← a7]; rfl
  · rw [d8, ← a9]; rfl
  · rw [d5, d7, if_neg (nI_ne0 (by omega) (by omega))]
    have e8 : rcA a D st v (S 0) 8 = if a 8 < agX (S 0) st then agX (S 0) st else a 8 := upS_h rfl
    rw [e8, ag, a8]
    by_cases hz : S (168 + 27 * j) = 0
    · have h170 := hA.2 hz
      have m9 : (-9 : Int32) < ageS S st := by
        rw [Int32.lt_iff_toInt_lt, m9T]
        omega
      have m0 : (0 : Int32) ≤ ageS S st := by
        rw [Int32.le_iff_toInt_le, z0T]
        exact ag0
      rw [if_pos hz, if_pos m9, h170, if_pos m0]
    · rw [if_neg hz]
      by_cases hc : S (170 + 27 * j) < ageS S st
      · rw [if_pos hc, if_pos (by rw [Int32.lt_iff_toInt_lt] at hc; rw [Int32.le_iff_toInt_le]; omega)]
      · rw [if_neg hc]
        by_cases hc2 : S (170 + 27 * j) ≤ ageS S st
        · rw [if_pos hc2, tE]
          rw [Int32.lt_iff_toInt_lt] at hc
          rw [Int32.le_iff_toInt_le] at hc2
          omega
        · rw [if_neg hc2]
  · unfold gI
    rw [d5, nI_toInt (by omega)]
    intro d p hd hdD hp
    have e1 : ((D + 1 : Nat) : Int).toNat = D + 1 := rfl
    rw [e1]
    by_cases hd0 : d = 0
    · subst hd0
      unfold dlvS rcR
      have e2 : D + 1 - 1 - 0 = D := by omega
      rw [e2]
      rcases (by omega : p = 0 ∨ p = 1 ∨ p = 2) with rfl | rfl | rfl
      · simp (disch := omega) only [upS_m]
        rw [upS_h (by omega), upS_h (by omega)]
      · simp (disch := omega) only [upS_m]
        rw [upS_h (by omega), upS_h (by omega)]
      · rw [upS_h (by omega), upS_h (by omega)]
    · have e3 := al (d - 1) p (by omega) (by omega) hp
      have e4 : D - 1 - (d - 1) = D - d := by omega
      rw [e4] at e3
      have e2 : D + 1 - 1 - d = D - d := by omega
      unfold dlvS rcR
      rw [e2]
      simp (disch := omega) only [upS_m, shS_h]
      rw [show 172 + 27 * j + 3 * d + p - 3 = 172 + 27 * j + 3 * (d - 1) + p by omega]
      exact e3
