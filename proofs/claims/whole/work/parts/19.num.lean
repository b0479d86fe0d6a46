/-! numbers: what the machine's ints are as whole numbers -/
theorem tA {x y : Int32} (h1 : -2147483648 ≤ x.toInt + y.toInt) (h2 : x.toInt + y.toInt < 2147483648) : (x + y).toInt = x.toInt + y.toInt := by
  rw [Int32.toInt_add]
  exact Int.bmod_eq_of_le (by omega) (by omega)
theorem tS {x y : Int32} (h1 : -2147483648 ≤ x.toInt - y.toInt) (h2 : x.toInt - y.toInt < 2147483648) : (x - y).toInt = x.toInt - y.toInt := by
  rw [Int32.toInt_sub]
  exact Int.bmod_eq_of_le (by omega) (by omega)
theorem tM {x y : Int32} (h1 : -2147483648 ≤ x.toInt * y.toInt) (h2 : x.toInt * y.toInt < 2147483648) : (x * y).toInt = x.toInt * y.toInt := by
  rw [Int32.toInt_mul]
  exact Int.bmod_eq_of_le (by omega) (by omega)
theorem tO {z : Int} (h1 : -2147483648 ≤ z) (h2 : z < 2147483648) : (Int32.ofInt z).toInt = z := Int32.toInt_ofInt_of_le (by omega) (by omega)
theorem tB (x : Int32) : -2147483648 ≤ x.toInt ∧ x.toInt < 2147483648 := ⟨Int32.le_toInt x, Int32.toInt_lt x⟩
theorem tE {x y : Int32} : x = y ↔ x.toInt = y.toInt := Int32.toInt_inj.symm
theorem tD {x y : Int32} (hy : y ≠ -1) : (x / y).toInt = x.toInt.tdiv y.toInt := Int32.toInt_div_of_ne_right x y hy
theorem xor_sign (x y : Int32) : (0 : Int32) ≤ (x ^^^ y) ↔ ((x.toInt < 0) ↔ (y.toInt < 0)) := by
  rw [Int32.le_iff_toInt_le]
  have h0 : (0 : Int32).toInt = 0 := rfl
  rw [h0]
  have h : (x ^^^ y).toInt = (x.toBitVec ^^^ y.toBitVec).toInt := rfl
  rw [h]
  have h1 : (x.toBitVec ^^^ y.toBitVec).msb = decide ((x.toBitVec ^^^ y.toBitVec).toInt < 0) := BitVec.msb_eq_toInt
  have h2 : x.toBitVec.msb = decide (x.toInt < 0) := BitVec.msb_eq_toInt
  have h3 : y.toBitVec.msb = decide (y.toInt < 0) := BitVec.msb_eq_toInt
  rw [BitVec.msb_xor, h2, h3] at h1
  by_cases a : x.toInt < 0 <;> by_cases b : y.toInt < 0 <;> simp [a, b] at h1 ⊢ <;> omega
theorem rem_tI {x d : Int32} (hd : 0 < d.toInt) : (x - x / d * d).toInt = x.toInt.tmod d.toInt := by
  have hne : d ≠ -1 := fun h => by rw [h] at hd; exact absurd hd (by decide)
  have e1 := tD (x := x) hne
  have hx := tB x
  have hdb := tB d
  have hm := Int.mul_tdiv_add_tmod x.toInt d.toInt
  have hlt := Int.tmod_lt_of_pos x.toInt hd
  have hgt := Int.lt_tmod_of_pos x.toInt hd
  have e2 : (x / d * d).toInt = x.toInt.tdiv d.toInt * d.toInt := by
    have hc : x.toInt.tdiv d.toInt * d.toInt = x.toInt - x.toInt.tmod d.toInt := by rw [Int.mul_comm]; omega
    have hb : -2147483648 ≤ x.toInt - x.toInt.tmod d.toInt ∧ x.toInt - x.toInt.tmod d.toInt < 2147483648 := by
      rcases Int.lt_or_le x.toInt 0 with hn | hp
      · have h5 : x.toInt.tmod d.toInt ≤ 0 := by
          have := Int.tmod_nonneg (a := -x.toInt) d.toInt (by omega)
          rw [Int.neg_tmod] at this
          omega
        have h6 : x.toInt ≤ x.toInt.tmod d.toInt := by
          have h7 : x.toInt.tdiv d.toInt ≤ 0 := by
            have := Int.tdiv_nonneg (a := -x.toInt) (b := d.toInt) (by omega) (by omega)
            rw [Int.neg_tdiv] at this
            omega
          have h8 : d.toInt * x.toInt.tdiv d.toInt ≤ 0 := Int.mul_nonpos_of_nonneg_of_nonpos (by omega) h7
          omega
        have h9 : x.toInt - x.toInt.tmod d.toInt ≤ 0 := by omega
        refine ⟨?_, by omega⟩
        have h10 : x.toInt.tdiv d.toInt * d.toInt = x.toInt - x.toInt.tmod d.toInt := hc
        omega
      · have h5 := Int.tmod_nonneg d.toInt hp
        have h6 : 0 ≤ x.toInt.tdiv d.toInt := Int.tdiv_nonneg hp (by omega)
        have h7 : 0 ≤ d.toInt * x.toInt.tdiv d.toInt := Int.mul_nonneg (by omega) h6
        omega
    rw [tM (by rw [e1, hc]; exact hb.1) (by rw [e1, hc]; exact hb.2), e1]
  rw [tS (by rw [e2, Int.mul_comm]; omega) (by rw [e2, Int.mul_comm]; omega), e2, Int.mul_comm]
  omega
theorem fmod_s {x d : Int32} {σ : Mem} (hd : 0 < d.toInt) : f_Mat_floorMod x d σ = some (Int32.ofInt (x.toInt % d.toInt), σ) := by
  have hd0 : ¬ d = 0 := fun h => by rw [h] at hd; exact absurd hd (by decide)
  have hr := rem_tI (x := x) hd
  have hdb := tB d
  have hlt := Int.tmod_lt_of_pos x.toInt hd
  have hgt := Int.lt_tmod_of_pos x.toInt hd
  have hsgn := xor_sign x d
  have e0 : (x - x / d * d) = 0 ↔ x.toInt.tmod d.toInt = 0 := by rw [tE, hr]; rfl
  have em : x.toInt % d.toInt = if 0 ≤ x.toInt ∨ x.toInt.tmod d.toInt = 0 then x.toInt.tmod d.toInt else x.toInt.tmod d.toInt + d.toInt := by
    have h := Int.tmod_eq_emod (a := x.toInt) (b := d.toInt)
    by_cases h0 : 0 ≤ x.toInt
    · rw [if_pos (Or.inl h0), Int.tmod_eq_emod_of_nonneg h0]
    · have h1 : d.toInt ∣ x.toInt ↔ x.toInt.tmod d.toInt = 0 := Int.dvd_iff_tmod_eq_zero
      by_cases h2 : x.toInt.tmod d.toInt = 0
      · rw [if_pos (Or.inr h2), h2]
        exact Int.emod_eq_zero_of_dvd (h1.mpr h2)
      · rw [if_neg (by omega)]
        rw [if_neg (fun z => z.elim h0 (fun z2 => h2 (h1.mp z2)))] at h
        omega
  unfold f_Mat_floorMod
  rw [if_neg hd0]
  simp only [lt]
  by_cases hx : 0 ≤ x.toInt
  · have hs : (0 : Int32) ≤ (x ^^^ d) := hsgn.mpr (by omega)
    rw [if_pos hs, em, if_pos (Or.inl hx), ← hr, Int32.ofInt_toInt]
  · have hs : ¬ (0 : Int32) ≤ (x ^^^ d) := fun h => by have := hsgn.mp h; omega
    rw [if_neg hs]
    by_cases hz : x.toInt.tmod d.toInt = 0
    · rw [if_pos (e0.mpr hz), em, if_pos (Or.inr hz), ← hr, Int32.ofInt_toInt]
    · rw [if_neg (fun h => hz (e0.mp h)), em, if_neg (by omega)]
      have hneg : x.toInt.tmod d.toInt ≤ 0 := by
        have := Int.tmod_nonneg (a := -x.toInt) d.toInt (by omega)
        rw [Int.neg_tmod] at this
        omega
      have e2 : (x - x / d * d + d).toInt = x.toInt.tmod d.toInt + d.toInt := by
        rw [tA (by rw [hr]; omega) (by rw [hr]; omega), hr]
      rw [← e2, Int32.ofInt_toInt]
