/-! numbers of a sample; the class's sample functions -/
theorem td4 (z : Int) : z.tdiv 4 = if 0 ≤ z ∨ z % 4 = 0 then z / 4 else z / 4 + 1 := by
  have h1 := Int.mul_tdiv_add_tmod z 4
  have h2 := Int.tmod_lt_of_pos z (show (0 : Int) < 4 by decide)
  have h3 := Int.lt_tmod_of_pos z (show (0 : Int) < 4 by decide)
  have h4 : 0 ≤ z → 0 ≤ z.tmod 4 := fun h => Int.tmod_nonneg 4 h
  have h5 : z ≤ 0 → z.tmod 4 ≤ 0 := fun h => by
    have := Int.tmod_nonneg (a := -z) 4 (by omega)
    rw [Int.neg_tmod] at this
    omega
  by_cases h : 0 ≤ z
  · have := h4 h
    rw [if_pos (Or.inl h)]; omega
  · have := h5 (by omega)
    by_cases hm : z % 4 = 0
    · rw [if_pos (Or.inr hm)]; omega
    · rw [if_neg (fun e => e.elim h hm)]; omega
theorem d4T : (4 : Int32).toInt = 4 := by decide
theorem fdiv4 (x : Int32) (σ : Mem) : ∃ y, f_Mat_floorDiv x 4 σ = some (y, σ) ∧ y.toInt = x.toInt / 4 := by
  have hx := tB x
  have e1 : (x / 4).toInt = x.toInt.tdiv 4 := by rw [tD (by decide), d4T]
  have h1 := td4 x.toInt
  have hs := xor_sign x 4
  rw [d4T] at hs
  have hr : -2147483648 ≤ x.toInt.tdiv 4 * 4 ∧ x.toInt.tdiv 4 * 4 < 2147483648 := by
    split at h1 <;> omega
  have e2 : (x / 4 * 4).toInt = x.toInt.tdiv 4 * 4 := by
    rw [tM (by rw [e1, d4T]; exact hr.1) (by rw [e1, d4T]; exact hr.2), e1, d4T]
  unfold f_Mat_floorDiv
  rw [if_neg (by decide), lt_eq]
  by_cases hz : 0 ≤ x.toInt
  · rw [if_pos (hs.mpr (by omega))]
    refine ⟨_, rfl, ?_⟩
    rw [e1, h1, if_pos (Or.inl hz)]
  · rw [if_neg (fun h => by have := hs.mp h; omega)]
    by_cases hm : x.toInt % 4 = 0
    · rw [if_pos (Or.inr hm)] at h1
      rw [if_pos (by rw [tE, e2]; omega)]
      refine ⟨_, rfl, ?_⟩
      rw [e1, h1]
    · rw [if_neg (fun e => e.elim hz hm)] at h1
      rw [if_neg (by rw [tE, e2]; omega)]
      have i1 : (1 : Int32).toInt = 1 := by decide
      refine ⟨_, rfl, ?_⟩
      rw [tS (by rw [e1, i1]; omega) (by rw [e1, i1]; omega), e1, i1]
      omega
theorem qtr_t {x : Int32} (h : -1000000000 ≤ x.toInt) : (qtrS x).toInt = x.toInt / 4 := by
  have d3 : (3 : Int32).toInt = 3 := by decide
  have hx := tB x
  unfold qtrS
  by_cases hn : x < 0
  · rw [if_pos hn]
    rw [Int32.lt_iff_toInt_lt, z0T] at hn
    have e3 : (3 - x).toInt = 3 - x.toInt := by rw [tS (by rw [d3]; omega) (by rw [d3]; omega), d3]
    have e4 : ((3 - x) / 4).toInt = (3 - x.toInt) / 4 := by
      rw [tD (by decide), e3, d4T, td4, if_pos (Or.inl (by omega))]
    rw [show -((3 - x) / 4) = 0 - (3 - x) / 4 from (Int32.zero_sub _).symm, tS (by rw [z0T, e4]; omega) (by rw [z0T, e4]; omega), z0T, e4]
    omega
  · rw [if_neg hn]
    rw [Int32.lt_iff_toInt_lt, z0T] at hn
    rw [tD (by decide), d4T, td4, if_pos (Or.inl (by omega))]
theorem rem_fm {x d : Int32} {σ : Mem} (hx : 0 ≤ x.toInt) (hd : 0 < d.toInt) : f_Mat_floorMod x d σ = some (x - x / d * d, σ) := by
  have hd2 := tB d
  have h1 := Int.emod_nonneg x.toInt (show d.toInt ≠ 0 by omega)
  have h2 := Int.emod_lt_of_pos x.toInt hd
  have e : Int32.ofInt (x.toInt % d.toInt) = x - x / d * d := by
    rw [tE, rem_tI hd, tO (by omega) (by omega), Int.tmod_eq_emod_of_nonneg hx]
  rw [fmod_s hd, e]
theorem rem_in {x d : Int32} (hx : 0 ≤ x.toInt) (hd : 0 < d.toInt) : (x - x / d * d).toInt = x.toInt % d.toInt := by
  rw [rem_tI hd, Int.tmod_eq_emod_of_nonneg hx]
/-- a stamp, in bounds -/
theorem stamp_in {S P : Nat → Int32} {i : Nat} {t : Int} (h0 : 0 ≤ gI S 0 ∧ gI S 0 ≤ 10499) (hR : WR S i t) (ht : t + 1 ≤ gI S 0) (h4 : S (11 + 19 * i) = 4) (hp : 1 ≤ (P i).toInt ∧ (P i).toInt ≤ 400) : 0 ≤ (stampS S P i).toInt ∧ (stampS S P i).toInt ≤ 401 * gI S 0 ∧ (S (11 + 19 * i) = 4 → (stampS S P i).toInt ≤ gI S 0 + 400 * (gI S (18 + 19 * i) + 1)) := by
  obtain ⟨w1, w2, _⟩ := hR
  have w3 := w2.2.2 h4
  unfold gI at *
  unfold stampS
  by_cases hz : S (18 + 19 * i) = 0
  · rw [if_pos hz]
    exact ⟨by omega, by omega, fun _ => by omega⟩
  · rw [if_neg hz]
    have e1 : (S (19 + 19 * i) + P i).toInt = (S (19 + 19 * i)).toInt + (P i).toInt := tA (by omega) (by omega)
    have e2 : (S 0 - (S (19 + 19 * i) + P i)).toInt = (S 0).toInt - ((S (19 + 19 * i)).toInt + (P i).toInt) := by rw [tS (by rw [e1]; omega) (by rw [e1]; omega), e1]
    have e3 := qtr_t (x := S 0 - (S (19 + 19 * i) + P i)) (by rw [e2]; omega)
    rw [e2] at e3
    have e4 : (S (19 + 19 * i) + P i + qtrS (S 0 - (S (19 + 19 * i) + P i))).toInt = (S (19 + 19 * i)).toInt + (P i).toInt + ((S 0).toInt - ((S (19 + 19 * i)).toInt + (P i).toInt)) / 4 := by
      rw [tA (by rw [e1, e3]; omega) (by rw [e1, e3]; omega), e1, e3]
    rw [e4]
    exact ⟨by omega, by omega, fun _ => by omega⟩
theorem stamp_X {S P : Nat → Int32} {i c : Nat} {t : Int} {σ : Mem} (h0 : 0 ≤ gI S 0 ∧ gI S 0 ≤ 10499) (hR : WR S i t) (ht : t + 1 ≤ gI S 0) (h4 : S (11 + 19 * i) = 4) (hp : 1 ≤ (P i).toInt ∧ (P i).toInt ≤ 400) (a12 : σ c 12 = S (18 + 19 * i)) (a14 : 0 < gI S (18 + 19 * i) → σ c 14 = S (19 + 19 * i)) (a11 : σ c 11 = P i) : f_Sen_smoothedStamp c (S 0) σ = some (stampS S P i, σ) := by
  obtain ⟨w1, w2, _⟩ := hR
  have w3 := w2.2.2 h4
  unfold gI at *
  unfold f_Sen_smoothedStamp stampS
  rw [a12]
  by_cases hz : S (18 + 19 * i) = 0
  · rw [if_pos hz, if_pos hz]
  · have hz2 : (S (18 + 19 * i)).toInt ≠ 0 := fun e => hz (by rw [tE, z0T]; exact e)
    rw [if_neg hz, if_neg hz, a14 (by omega), a11, lt_eq]
    have e1 : (S (19 + 19 * i) + P i).toInt = (S (19 + 19 * i)).toInt + (P i).toInt := tA (by omega) (by omega)
    have e2 : (S 0 - (S (19 + 19 * i) + P i)).toInt = (S 0).toInt - ((S (19 + 19 * i)).toInt + (P i).toInt) := by rw [tS (by rw [e1]; omega) (by rw [e1]; omega), e1]
    have e3 := qtr_t (x := S 0 - (S (19 + 19 * i) + P i)) (by rw [e2]; omega)
    obtain ⟨y, ey, hy⟩ := fdiv4 (S 0 - (S (19 + 19 * i) + P i)) σ
    rw [bd_eq ey]
    have e5 : y = qtrS (S 0 - (S (19 + 19 * i) + P i)) := by rw [tE, hy, e3]
    rw [e5]
theorem i1000 : (1000 : Int32).toInt = 1000 := by decide
theorem value_X {S : Nat → Int32} {i c : Nat} {u : Int32} {σ : Mem} (h3 : 0 ≤ gI S (14 + 19 * i) ∧ gI S (14 + 19 * i) ≤ 99) (h4 : 0 ≤ gI S (15 + 19 * i) ∧ gI S (15 + 19 * i) ≤ 999) (hu : 0 ≤ u.toInt ∧ u.toInt ≤ 10499) (a3 : σ c 3 = S (14 + 19 * i)) (a4 : σ c 4 = S (15 + 19 * i)) : f_Sen_valueAt c u σ = some (valS S i u, σ) ∧ 0 ≤ (valS S i u).toInt ∧ (valS S i u).toInt ≤ 999 := by
  unfold gI at h3 h4
  have hm : 0 ≤ (S (14 + 19 * i)).toInt * u.toInt ∧ (S (14 + 19 * i)).toInt * u.toInt ≤ 99 * 10499 := ⟨Int.mul_nonneg h3.1 hu.1, Int.mul_le_mul h3.2 hu.2 hu.1 (by decide)⟩
  have e1 : (S (14 + 19 * i) * u).toInt = (S (14 + 19 * i)).toInt * u.toInt := tM (by omega) (by omega)
  have e2 : (S (14 + 19 * i) * u + S (15 + 19 * i)).toInt = (S (14 + 19 * i)).toInt * u.toInt + (S (15 + 19 * i)).toInt := by rw [tA (by rw [e1]; omega) (by rw [e1]; omega), e1]
  unfold f_Sen_valueAt valS
  rw [a3, a4, bd_eq (rem_fm (by rw [e2]; omega) (by rw [i1000]; decide))]
  refine ⟨rfl, ?_⟩
  rw [rem_in (by rw [e2]; omega) (by rw [i1000]; decide), i1000]
  omega
theorem sum_in {S : Nat → Int32} {i g : Nat} (h : ∀ r : Nat, r < 8 → r < g → 0 ≤ gI S (22 + 19 * i + r) ∧ gI S (22 + 19 * i + r) ≤ 999) : ∀ m : Nat, m ≤ 8 → m ≤ g → 0 ≤ (sumS S i g m).toInt ∧ (sumS S i g m).toInt ≤ 999 * m := by
  intro m
  induction m with
  | zero =>
    intro _ _
    show 0 ≤ (0 : Int32).toInt ∧ (0 : Int32).toInt ≤ _
    rw [z0T]
    omega
  | succ m ih =>
    intro h8 hg
    have h1 := ih (by omega) (by omega)
    have hm : (g - (m + 1)) % 8 < 8 := Nat.mod_lt _ (by decide)
    have hl : (g - (m + 1)) % 8 ≤ g - (m + 1) := Nat.mod_le _ _
    have h2 := h _ hm (by omega)
    unfold gI at h2
    show 0 ≤ (sumS S i g m + S (22 + 19 * i + (g - (m + 1)) % 8)).toInt ∧ (sumS S i g m + S (22 + 19 * i + (g - (m + 1)) % 8)).toInt ≤ _
    rw [tA (by omega) (by omega)]
    omega
theorem mean_in {S : Nat → Int32} {i l : Nat} (hl : 1 ≤ l ∧ l ≤ 8) (hg : 1 ≤ gI S (21 + 19 * i)) (h : ∀ r : Nat, r < 8 → (r : Int) < gI S (21 + 19 * i) → 0 ≤ gI S (22 + 19 * i + r) ∧ gI S (22 + 19 * i + r) ≤ 999) : 0 ≤ (meanS S i l).toInt ∧ (meanS S i l).toInt ≤ 999 := by
  have key : ∀ m : Nat, 1 ≤ m → m ≤ 8 → m ≤ (S (21 + 19 * i)).toInt.toNat → 0 ≤ (sumS S i (S (21 + 19 * i)).toInt.toNat m / nI m).toInt ∧ (sumS S i (S (21 + 19 * i)).toInt.toNat m / nI m).toInt ≤ 999 := fun m h1 h8 hm => by
    have hs := sum_in (S := S) (i := i) (g := (S (21 + 19 * i)).toInt.toNat) (fun r hr hrg => h r hr (by unfold gI; omega)) m h8 hm
    have em : (nI m).toInt = m := nI_toInt (by omega)
    have m1 : (-1 : Int32).toInt = -1 := by decide
    rw [tD (fun e => by rw [e] at em; omega), em, Int.tdiv_eq_ediv_of_nonneg hs.1]
    rcases (by omega : m = 1 ∨ m = 2 ∨ m = 3 ∨ m = 4 ∨ m = 5 ∨ m = 6 ∨ m = 7 ∨ m = 8) with rfl | rfl | rfl | rfl | rfl | rfl | rfl | rfl <;> omega
  have hg2 : 1 ≤ (S (21 + 19 * i)).toInt.toNat := by unfold gI at hg; omega
  unfold meanS
  by_cases hc : l ≤ (S (21 + 19 * i)).toInt.toNat
  · simp only [if_pos hc]
    exact key l hl.1 hl.2 hc
  · simp only [if_neg hc]
    exact key _ hg2 (by omega) (Nat.le_refl _)
theorem mean_X {S : Nat → Int32} {i l c : Nat} {σ : Mem} (hl : 1 ≤ l ∧ l ≤ 8) (hg : 1 ≤ gI S (21 + 19 * i)) (a16 : σ c 16 = S (21 + 19 * i)) (hr : ∀ k : Nat, k < 8 → (k : Int) < gI S (21 + 19 * i) → σ (c + 1) k = S (22 + 19 * i + k)) : f_Sen_meanOfLatest c (nI l) σ = some (meanS S i l, σ) := by
  have eg : S (21 + 19 * i) = nI (S (21 + 19 * i)).toInt.toNat := toNI (by unfold gI at hg; omega)
  have hgn : 1 ≤ (S (21 + 19 * i)).toInt.toNat := by unfold gI at hg; omega
  have h31 : (S (21 + 19 * i)).toInt.toNat < 2 ^ 31 := by have := tB (S (21 + 19 * i)); omega
  have hr2 : ∀ k : Nat, k < 8 → k < (S (21 + 19 * i)).toInt.toNat → σ (c + 1) k = S (22 + 19 * i + k) := fun k h1 h2 => hr k h1 (by unfold gI; omega)
  unfold f_Sen_meanOfLatest meanS
  rw [bd_eq min_s, if_neg (show ¬ (8 : Int32) < nI l from nI_nlt (show l ≤ 8 by omega) (by decide)), a16, bd_eq min_s, eg]
  rw [eg] at a16
  generalize (S (21 + 19 * i)).toInt.toNat = g at *
  have lp : ∀ (m : Nat), 1 ≤ m → m ≤ 8 → m ≤ g → L_Sen_meanOfLatest_19 c (nI m) (fun z8 σ9 => if nI m ≤ 0 then some ((-8 : Int32), σ9) else if nI m = 0 then none else some (z8 / nI m, σ9)) FU 0 1 σ = some (sumS S i g m / nI m, σ) := by
    intro m hm1 hm8 hmg
    obtain ⟨a, σ', e, ha, hs⟩ := loopA (fun n a x σ => L_Sen_meanOfLatest_19 c (nI m) (fun z8 σ9 => if nI m ≤ 0 then some ((-8 : Int32), σ9) else if nI m = 0 then none else some (z8 / nI m, σ9)) n a (x + 1) σ) (fun z8 σ9 => if nI m ≤ 0 then some ((-8 : Int32), σ9) else if nI m = 0 then none else some (z8 / nI m, σ9)) m (fun o a τ => a = sumS S i g o ∧ τ = σ)
      (fun n a σ hI => by
        show (if nI m < nI m + 1 then _ else _) = _
        rw [← nI_succ, if_pos (nI_lt (by omega) (by omega))])
      (fun n o a τ ho hI => by
        obtain ⟨rfl, rfl⟩ := hI
        refine ⟨_, τ, ?_, rfl, rfl⟩
        show (if nI m < nI o + 1 then _ else _) = _
        have hm : (g - (o + 1)) % 8 < 8 := Nat.mod_lt _ (by decide)
        have hle : (g - (o + 1)) % 8 ≤ g - (o + 1) := Nat.mod_le _ _
        have hf : f_Mat_floorMod (τ c 16 - nI (o + 1)) 8 τ = some (nI ((g - (o + 1)) % 8), τ) := by
          rw [a16, pk_sub (by omega)]
          exact fmod_n (d := 8) (by omega) (by decide) (by decide)
        rw [← nI_succ, if_neg (nI_nlt (by omega) (by omega)), bd_eq hf, if_pos (ib_nI hm (by decide)), nI_clamp (by omega), lt_eq, hr2 _ hm (by omega)]
        rfl) m 0 FU 0 σ (by omega) (by show _ < 4096; omega) ⟨rfl, rfl⟩
    refine Eq.trans e ?_
    rw [ha, hs, if_neg (show ¬ nI m ≤ (0 : Int32) from nI_ge (show 0 < m by omega) (by omega)), if_neg (nI_ne0 (by omega) (by omega))]
  rw [nI_toInt h31]
  have h5 : ((g : Int).toNat) = g := rfl
  rw [h5]
  by_cases h : l ≤ g
  · rw [if_neg (nI_nlt h (by omega))]
    simp only [if_pos h]
    exact lp l hl.1 hl.2 h
  · rw [if_pos (nI_lt (by omega) (by omega))]
    simp only [if_neg h]
    exact lp g hgn (by omega) (by omega)
