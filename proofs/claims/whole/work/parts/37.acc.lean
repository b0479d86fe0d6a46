/-! the class's outages, a sample accepted -/
theorem outF_1 {S : Nat → Int32} {i o : Nat} {t : Int32} (h : outF S i t o = 1) : ∀ j, outF S i t (o + j) = 1 := by
  intro j
  induction j with
  | zero => exact h
  | succ j ih =>
    show (if outF S i t (o + j) = 0 then _ else (1 : Int32)) = 1
    rw [ih, if_neg (by decide)]
theorem cover_lp {σ : Mem} {q : Nat} {S : Nat → Int32} {i : Nat} {t : Int32} (hO : RO σ q S) (h2 : 0 ≤ gI S 2 ∧ gI S 2 ≤ 4) : ∀ (j o n : Nat), o + j = (S 2).toInt.toNat → j < n → outF S i t o = 0 → L_Out_cover_2 (q + 4) (nI i) t (fun σ3 => some ((0 : Int32), σ3)) n (nI o) σ = some (outF S i t (S 2).toInt.toNat, σ) := by
  have en : S 2 = nI (S 2).toInt.toNat := toNI h2.1
  have hl : (S 2).toInt.toNat ≤ 4 := by unfold gI at h2; omega
  intro j
  induction j with
  | zero =>
    intro o n ho hn h0
    obtain ⟨n, rfl⟩ : ∃ z, n = z + 1 := ⟨n - 1, by omega⟩
    unfold L_Out_cover_2
    rw [hO.1, en, if_pos (nI_le (by omega) (by omega)), nI_toInt (by omega)]
    rw [show ((S 2).toInt.toNat : Int).toNat = o by omega, h0]
  | succ j ih =>
    intro o n ho hn h0
    obtain ⟨n, rfl⟩ : ∃ z, n = z + 1 := ⟨n - 1, by omega⟩
    obtain ⟨b1, b2, b3⟩ := hO.2 o (by unfold gI; omega)
    unfold L_Out_cover_2
    rw [hO.1, if_neg (by rw [en]; exact nI_ge (by omega) (by omega)), if_neg (show ¬ (4 : Int32) ≤ nI o from nI_ge (show o < 4 by omega) (by decide)), if_pos (ib_nI (by omega) (by decide)), nI_clamp (by omega), b1, b2, b3, isW, bd_some, ← nI_succ]
    have e1 : outF S i t (o + 1) = if S (379 + 3 * o) = nI i ∧ S (380 + 3 * o) ≤ t ∧ t ≤ S (381 + 3 * o) then 1 else 0 := by
      show (if outF S i t o = 0 then _ else (1 : Int32)) = _
      rw [if_pos h0]
    by_cases hs : S (379 + 3 * o) = nI i
    · have hib : ib (nI o) 4 := ib_nI (by omega) (by decide)
      rw [if_pos hs, if_pos hib, if_pos hib]
      by_cases hw : S (380 + 3 * o) ≤ t ∧ t ≤ S (381 + 3 * o)
      · rw [if_pos hw, if_neg (show ¬ (1 : Int32) = 0 by decide)]
        rw [if_pos ⟨hs, hw⟩] at e1
        have := outF_1 e1 j
        rw [show o + 1 + j = (S 2).toInt.toNat by omega] at this
        rw [this]
      · rw [if_neg hw, if_pos rfl]
        rw [if_neg (fun z => hw z.2)] at e1
        exact ih (o + 1) n (by omega) (by omega) e1
    · rw [if_neg hs]
      rw [if_neg (fun z => hs z.1)] at e1
      exact ih (o + 1) n (by omega) (by omega) e1
theorem cover_X {σ : Mem} {q : Nat} {S : Nat → Int32} {i : Nat} {t : Int32} (hO : RO σ q S) (h2 : 0 ≤ gI S 2 ∧ gI S 2 ≤ 4) : f_Out_cover (q + 4) (nI i) t σ = some (outF S i t (S 2).toInt.toNat, σ) :=
  cover_lp hO h2 (S 2).toInt.toNat 0 FU (by omega) (by unfold gI at h2; show _ < 4096; omega) rfl
def acA (a : Nat → Int32) (st v : Int32) : Nat → Int32 := if v = -8 then upS (upS (upS (upS a 14 st) 15 v) 12 (a 12 + 1)) 13 1 else upS (upS (upS (upS (upS a 14 st) 15 v) 12 (a 12 + 1)) 13 1) 16 (a 16 + 1)
def acR (r : Nat → Int32) (G : Nat) (v : Int32) : Nat → Int32 := if v = -8 then r else upS r (G % 8) v
theorem acc_X {c G : Nat} {σ : Mem} {st v : Int32} (hG : σ c 16 = nI G) (h : G < 1000000) : f_Sen_accept c st v σ = some ((), wrow (wrow σ (c + 1) (acR (σ (c + 1)) G v)) c (acA (σ c) st v)) := by
  have hm : G % 8 < 8 := Nat.mod_lt _ (by decide)
  have h1 : wr (wr (wr (wr σ c 14 st) c 15 v) c 12 (wr (wr σ c 14 st) c 15 v c 12 + 1)) c 13 1 = wrow σ c (upS (upS (upS (upS (σ c) 14 st) 15 v) 12 (σ c 12 + 1)) 13 1) := by
    simp (disch := omega) only [wr_row, wrow_h, wrow_2, upS_m]
  unfold f_Sen_accept
  simp only [lt_eq]
  rw [h1]
  unfold acA acR
  by_cases h8 : v = -8
  · rw [if_pos h8, if_pos h8, if_pos h8, wrow_id]
  · have e16 : wrow σ c (upS (upS (upS (upS (σ c) 14 st) 15 v) 12 (σ c 12 + 1)) 13 1) c 16 = nI G := by
      rw [wrow_h, upS_m (by omega), upS_m (by omega), upS_m (by omega), upS_m (by omega), hG]
    rw [if_neg h8, if_neg h8, if_neg h8, e16, bd_eq (show f_Mat_floorMod (nI G) 8 (wrow σ c (upS (upS (upS (upS (σ c) 14 st) 15 v) 12 (σ c 12 + 1)) 13 1)) = some (nI (G % 8), wrow σ c (upS (upS (upS (upS (σ c) 14 st) 15 v) 12 (σ c 12 + 1)) 13 1)) from fmod_n (d := 8) (by omega) (by decide) (by decide)), if_pos (ib_nI hm (by decide)), nI_clamp (by omega)]
    simp only [wr_row]
    rw [wrow_m (v := c) (b := c + 1) (by omega), wrow_m (v := c + 1) (b := c) (by omega), wrow_h, wrow_c (v := c) (w := c + 1) (by omega), wrow_2]
    rw [upS_m (j := 16) (k := 13) (by omega), upS_m (j := 16) (k := 12) (by omega), upS_m (j := 16) (k := 15) (by omega), upS_m (j := 16) (k := 14) (by omega)]
theorem acc_RR {a r S : Nat → Int32} {i : Nat} {t : Int} {st v : Int32} (hW : WR S i t) (ht : t ≤ 10500) (h : RR a r S i) : RR (acA a st v) (acR r (S (21 + 19 * i)).toInt.toNat v) (rcvS S i st v) i := by
  obtain ⟨w1, w2, w3, w4, w5, w6⟩ := hW
  obtain ⟨r1, r2, r3, r4⟩ := h
  unfold RR gI
  rw [rcvS_18, rcvS_19, rcvS_20, rcvS_21]
  unfold gI at *
  have p2 : (S (21 + 19 * i) + 1).toInt = (S (21 + 19 * i)).toInt + 1 := plus1 w4.2 (by omega)
  unfold acA acR
  by_cases h8 : v = -8
  · simp only [if_pos h8]
    refine ⟨?_, fun _ => ⟨?_, ?_⟩, ?_, fun k hk hg => ?_⟩
    · rw [upS_m (by omega), upS_h rfl, r1]
    · rw [upS_m (by omega), upS_m (by omega), upS_m (by omega), upS_h rfl]
    · rw [upS_m (by omega), upS_m (by omega), upS_h rfl]
    · rw [upS_m (by omega), upS_m (by omega), upS_m (by omega), upS_m (by omega), r3]
    · rw [rcvS_22 hk, if_neg (fun z => z.1 h8)]
      exact r4 k hk hg
  · simp only [if_neg h8]
    refine ⟨?_, fun _ => ⟨?_, ?_⟩, ?_, fun k hk hg => ?_⟩
    · rw [upS_m (by omega), upS_m (by omega), upS_h rfl, r1]
    · rw [upS_m (by omega), upS_m (by omega), upS_m (by omega), upS_m (by omega), upS_h rfl]
    · rw [upS_m (by omega), upS_m (by omega), upS_m (by omega), upS_h rfl]
    · rw [upS_h rfl, r3]
    · rw [rcvS_22 hk]
      rw [p2] at hg
      by_cases e : k = (S (21 + 19 * i)).toInt.toNat % 8
      · rw [if_pos ⟨h8, e⟩, upS_h e]
      · rw [if_neg (fun z => e z.2), upS_m e]
        exact r4 k hk (by omega)
/-- a sample is accepted: both sides hold it -/
theorem acc_RH {σ : Mem} {q i : Nat} {S : Nat → Int32} {tS tC : Nat → Int} {b : Int} {st v x : Int32} (hW : WX S tS tC b) (ht : tS i ≤ 10500) (hi : i < nS S) (hR : RH σ q S) : ∃ σ', f_Sen_accept (q + 2 + (8 + 2 * i)) st v (wr σ q 2 x) = some ((), σ') ∧ RH σ' q (upS (rcvS S i st v) 5 x) ∧ σ' (q + 2 + (8 + 2 * i)) 13 = 1 ∧ (∀ w, w ≠ q → w ≠ q + 2 + (8 + 2 * i) → w ≠ q + 2 + (8 + 2 * i) + 1 → σ' w = σ w) ∧ ∀ k, k ≠ 2 → σ' q k = σ q k := by
  have hWR := (hW.2.1 i hi).2
  have hRR := (hR.2.2.2.1 i hi).2.1
  have hg := hWR.2.2.2.1
  have hs := hWR.1
  have c1 : wr σ q 2 x (q + 2 + (8 + 2 * i)) = σ (q + 2 + (8 + 2 * i)) := wr_other (by omega)
  have c2 : wr σ q 2 x (q + 2 + (8 + 2 * i) + 1) = σ (q + 2 + (8 + 2 * i) + 1) := wr_other (by omega)
  have hG : wr σ q 2 x (q + 2 + (8 + 2 * i)) 16 = nI (S (21 + 19 * i)).toInt.toNat := by
    rw [c1, hRR.2.2.1]
    exact toNI hg.1
  refine ⟨_, acc_X hG (by unfold gI at hg hs; omega), ?_, ?_, ?_, ?_⟩
  · rw [c1, c2]
    refine RH_sen hW hi (fun p hp hp5 => by rw [upS_m hp5]; exact rcvS_m (by omega)) (fun w h1 h2 h3 h4 => ?_) (fun k hk => ?_) ?_ (fun k hk => ?_) ?_ hR
    · rw [wrow_m (by omega), wrow_m (by omega), wr_other (by omega)]
    · rw [wrow_m (by omega), wrow_m (by omega), wr_m (Or.inr hk)]
    · rw [wrow_m (by omega), wrow_m (by omega), wr_h rfl rfl, upS_h rfl]
    · rw [wrow_h]
      unfold acA
      split <;> simp (disch := omega) only [upS_m]
    · rw [wrow_h, wrow_m (by omega), wrow_h]
      exact RR_cong (fun p h1 h2 => upS_m (by omega)) (acc_RR hWR ht hRR)
  · rw [wrow_h]
    unfold acA
    split
    · exact upS_h rfl
    · rw [upS_m (by omega)]; exact upS_h rfl
  · intro w h1 h2 h3
    rw [wrow_m h2, wrow_m h3, wr_other h1]
  · intro k hk
    rw [wrow_m (by omega), wrow_m (by omega), wr_m (Or.inr hk)]
