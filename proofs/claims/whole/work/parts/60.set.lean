/-! the class settles its periods, restarts, and sets strides -/
def chF (S O : Nat → Int32) : Nat → Int32
  | 0 => 0
  | i + 1 => if S (11 + 19 * i) = 4 ∧ pd S i ≠ O i then 1 else chF S O i
theorem chF_01 {S O : Nat → Int32} : ∀ i, chF S O i = 0 ∨ chF S O i = 1 := by
  intro i
  induction i with
  | zero => exact Or.inl rfl
  | succ i ih =>
    show (if S (11 + 19 * i) = 4 ∧ pd S i ≠ O i then 1 else chF S O i) = 0 ∨ (if S (11 + 19 * i) = 4 ∧ pd S i ≠ O i then 1 else chF S O i) = 1
    split
    · exact Or.inr rfl
    · exact ih
theorem gs_lp {σ : Mem} {c : Nat} {st d : Int32} {K : Int32 → Mem → Option (Int32 × Mem)} (h2 : σ c 2 = st) (h10 : σ c 10 = d) : ∀ (f m n : Nat) (p : Int32), st.toInt ≤ m + f → f < n → m + f < 100 → L_Sen_greatestSupported_7 c K n p (nI m) σ = K (supL st d f p (nI m)) σ := by
  intro f
  induction f with
  | zero =>
    intro m n p h hn hm
    obtain ⟨n, rfl⟩ : ∃ m, n = m + 1 := ⟨n - 1, by omega⟩
    unfold L_Sen_greatestSupported_7
    rw [h2, if_pos (by rw [Int32.le_iff_toInt_le, nI_toInt (by omega)]; omega)]
    rfl
  | succ f ih =>
    intro m n p h hn hm
    obtain ⟨n, rfl⟩ : ∃ m, n = m + 1 := ⟨n - 1, by omega⟩
    unfold L_Sen_greatestSupported_7
    show _ = K (if nI m < st ∧ 2 * p ≤ d then supL st d f (2 * p) (nI m + 1) else p) σ
    rw [h2, h10]
    by_cases h1 : st ≤ nI m
    · rw [if_pos h1, if_neg (fun z => by have := z.1; rw [Int32.lt_iff_toInt_lt] at this; rw [Int32.le_iff_toInt_le] at h1; omega)]
    · rw [if_neg h1]
      by_cases h3 : d < 2 * p
      · rw [if_pos h3, if_neg (fun z => by have := z.2; rw [Int32.le_iff_toInt_le] at this; rw [Int32.lt_iff_toInt_lt] at h3; omega)]
      · rw [if_neg h3, if_pos ⟨by rw [Int32.lt_iff_toInt_lt]; rw [Int32.le_iff_toInt_le] at h1; omega, by rw [Int32.le_iff_toInt_le]; rw [Int32.lt_iff_toInt_lt] at h3; omega⟩, lt_eq, ← nI_succ]
        exact ih (m + 1) n (2 * p) (by omega) (by omega) (by omega)
theorem gs_s {σ : Mem} {c i : Nat} {S : Nat → Int32} {d : Int32} (hP : WP S i) (h4 : S (11 + 19 * i) = 4) (hR : RP (σ c) S i) (h10 : σ c 10 = d) : f_Sen_greatestSupported c σ = some (sup S i d, σ) := by
  obtain ⟨p1, p2, _⟩ := hR.2.1 h4
  have h5 : gI S (13 + 19 * i) ≤ 5 := by
    rcases hP with h | h
    · exact h.2.2.1.2
    · unfold gI at h
      rw [h4] at h
      exact absurd h.1.2 (by decide)
  unfold f_Sen_greatestSupported
  rw [lt_eq, p1]
  unfold gI at h5
  exact gs_lp p2 h10 8 1 FU _ (by omega) (by decide) (by decide)
theorem setP_X {σ : Mem} {q : Nat} {S O : Nat → Int32} {tS tC : Nat → Int} {b : Int} (hW : WX S tS tC b) (hR : R0 σ q S) (hD : ∀ k, k < nS S → σ (q + 2 + (8 + 2 * k)) 10 = dm S k) (hO : ∀ k, k < nS S → σ (q + 2 + (8 + 2 * k)) 11 = O k) : ∃ σ', f_Hub_setPeriods q σ = some (chF S O (nS S), σ') ∧ S11 σ σ' q ∧ ∀ k, k < nS S → σ' (q + 2 + (8 + 2 * k)) 11 = pd S k := by
  have h8 := nS_le hW.1
  have hCW := CW_of hW
  unfold f_Hub_setPeriods
  obtain ⟨a, σ', e, ha, i1, i2, i3⟩ := loopA (L_Hub_setPeriods_4 q (fun z8 σ9 => if z8 &&& 1 = z8 then some (z8, σ9) else none)) (fun z8 σ9 => if z8 &&& 1 = z8 then some (z8, σ9) else none) 8 (fun i a τ => a = chF S O (min i (nS S)) ∧ S11 σ τ q ∧ (∀ k, k < nS S → k < i → τ (q + 2 + (8 + 2 * k)) 11 = pd S k) ∧ ∀ k, k < nS S → i ≤ k → τ (q + 2 + (8 + 2 * k)) 11 = O k)
    (fun n a τ _ => by show (if (8 : Int32) ≤ nI 8 then _ else _) = _; rw [if_pos (by decide)])
    (fun n i a τ hi hI => by
      obtain ⟨ha, i1, i2, i3⟩ := hI
      have hR' := R0_SX hW.1 (SX_11 i1) hR
      by_cases hin : i < nS S
      · have e1 : min i (nS S) = i := by omega
        have e2 : min (i + 1) (nS S) = i + 1 := by omega
        rw [e1] at ha
        rw [e2]
        subst ha
        obtain ⟨hP, _⟩ := hR'.2.2.2.1 i hin
        have hd : τ (q + 2 + (8 + 2 * i)) 10 = dm S i := by rw [i1 _ _ (by omega)]; exact hD i hin
        have hpf : f_Hub_periodFor q (q + 2 + (8 + 2 * i)) τ = some (pd S i, τ) := by
          unfold f_Hub_periodFor
          rw [hd, hP.1]
          by_cases h9 : dm S i = -9
          · rw [if_pos h9]
            unfold pd
            rw [if_pos h9]
          · rw [if_neg h9]
            by_cases h4 : S (11 + 19 * i) = 4
            · rw [if_pos h4, bd_eq (gs_s (hW.2.1 i hin).1 h4 hP hd)]
              unfold pd
              rw [if_neg h9, src_id h4, if_neg h9]
            · have hs := src_le hCW hin
              have hne : src S i ≠ i := fun e => h4 (by have := src_4 hCW hin; rw [e] at this; exact this)
              rw [if_neg h4, hP.2.2.2.1, bd_eq (sensorAt_n hW.1 hR'.1 (by omega)), oe_some, i2 (src S i) (by omega) (by omega), ← pd_src hCW hin h9]
        have hst : chF S O (i + 1) = if S (11 + 19 * i) = 4 ∧ pd S i ≠ O i then 1 else chF S O i := rfl
        have hw0 : ∀ k, k ≠ 11 → wr τ (q + 2 + (8 + 2 * i)) 11 (pd S i) (q + 2 + (8 + 2 * i)) k = τ (q + 2 + (8 + 2 * i)) k := fun k hk => wr_m (Or.inr hk)
        refine ⟨chF S O (i + 1), wr τ (q + 2 + (8 + 2 * i)) 11 (pd S i), ?_, rfl, fun w k hw => ?_, fun k hk hki => ?_, fun k hk hki => ?_⟩
        · show (if (8 : Int32) ≤ nI i then _ else _) = _
          rw [if_neg (ge8 hi), bd_eq (sensorAt_n hW.1 hR'.1 hin), oe_some, lt_eq, bd_eq hpf, lt_eq, hw0 0 (by decide), hP.1, wr_h rfl rfl, i3 i hin (Nat.le_refl _), ← nI_succ, hst]
          by_cases h4 : S (11 + 19 * i) = 4
          · rw [if_pos h4]
            by_cases hp : pd S i = O i
            · rw [if_pos hp, if_neg (fun z => z.2 hp)]
            · rw [if_neg hp, if_pos ⟨h4, hp⟩]
          · rw [if_neg h4, if_neg (fun z => h4 z.1)]
        · rw [wr_m (by omega)]; exact i1 w k hw
        · by_cases e : k = i
          · rw [e, wr_h rfl rfl]
          · rw [wr_m (by omega)]; exact i2 k hk (by omega)
        · rw [wr_m (by omega)]; exact i3 k hk (by omega)
      · have e1 : min i (nS S) = nS S := by omega
        have e2 : min (i + 1) (nS S) = nS S := by omega
        rw [e1] at ha
        rw [e2]
        refine ⟨a, τ, ?_, ha, i1, fun k hk _ => i2 k hk (by omega), fun k hk hki => by omega⟩
        show (if (8 : Int32) ≤ nI i then _ else _) = _
        rw [if_neg (ge8 hi), bd_eq (sensorAt_0 hW.1 hR'.1 (by omega) (by omega)), oe_none, ← nI_succ]) 8 0 FU 0 σ rfl (by decide) ⟨by rw [Nat.zero_min]; rfl, fun _ _ _ => rfl, fun k _ hk => by omega, fun k hk _ => hO k hk⟩
  rw [show min 8 (nS S) = nS S by omega] at ha
  refine ⟨σ', ?_, i1, fun k hk => i2 k hk (by omega)⟩
  refine Eq.trans e ?_
  rw [ha]
  rcases chF_01 (S := S) (O := O) (nS S) with h | h <;> rw [h] <;> rfl
def rsS (S : Nat → Int32) : Nat → Int32 := fun p => if p = 6 then S 0 else if 11 ≤ p ∧ p < 11 + 19 * nS S ∧ 7 ≤ (p - 11) % 19 then 0 else if 163 ≤ p ∧ p < 379 ∧ (p - 163) % 27 = 4 then 0 else S p
theorem rs_m {S : Nat → Int32} {p : Nat} (h : p ≠ 6) (h1 : ¬ (11 ≤ p ∧ p < 11 + 19 * nS S ∧ 7 ≤ (p - 11) % 19)) (h2 : ¬ (163 ≤ p ∧ p < 379 ∧ (p - 163) % 27 = 4)) : rsS S p = S p := by
  unfold rsS
  rw [if_neg h, if_neg h1, if_neg h2]
theorem rs_s {S : Nat → Int32} {i k p : Nat} (hi : i < nS S) (hk : 7 ≤ k ∧ k < 19) (hp : p = 11 + 19 * i + k) : rsS S p = 0 := by
  unfold rsS
  rw [if_neg (by omega), if_pos (by omega)]
theorem rs_c {S : Nat → Int32} {j p : Nat} (hn : nS S ≤ 8) (hj : j < 8) (hp : p = 167 + 27 * j) : rsS S p = 0 := by
  unfold rsS
  rw [if_neg (by omega), if_neg (by omega), if_pos (by omega)]
theorem rs_cf {S : Nat → Int32} (hn : nS S ≤ 8) : cfE S (rsS S) := fun p hp => by
  rcases hp with h | h | h
  · exact rs_m (by omega) (by omega) (by omega)
  · exact rs_m (by omega) (by omega) (by omega)
  · exact rs_m (by omega) (by omega) (by omega)
theorem rs_W {S : Nat → Int32} {tS tC : Nat → Int} {b : Int} (hW : WX S tS tC b) (ht : ∀ i, 0 ≤ tS i) (htc : ∀ j, 0 ≤ tC j) : WX (rsS S) tS tC b := by
  have h8 := nS_le hW.1
  have h3 := hW.1.2.2.2.2.1
  have h0 := hW.1.1
  have hcf := rs_cf h8
  have hm : ∀ p, p ≠ 6 → ¬ (11 ≤ p ∧ p < 11 + 19 * nS S ∧ 7 ≤ (p - 11) % 19) → ¬ (163 ≤ p ∧ p < 379 ∧ (p - 163) % 27 = 4) → rsS S p = S p := fun p a1 a2 a3 => rs_m a1 a2 a3
  have gm : ∀ p, p ≠ 6 → ¬ (11 ≤ p ∧ p < 11 + 19 * nS S ∧ 7 ≤ (p - 11) % 19) → ¬ (163 ≤ p ∧ p < 379 ∧ (p - 163) % 27 = 4) → gI (rsS S) p = gI S p := fun p a1 a2 a3 => congrArg Int32.toInt (hm p a1 a2 a3)
  have g6 : gI (rsS S) 6 = gI S 0 := congrArg Int32.toInt (if_pos rfl)
  refine ⟨?_, fun i hi => ?_, fun k hk => ?_, fun e he => ?_⟩
  · have hG := hW.1
    unfold WG at hG ⊢
    rw [gm 0 (by omega) (by omega) (by omega), g6, gm 1 (by omega) (by omega) (by omega), gm 2 (by omega) (by omega) (by omega), gm 3 (by omega) (by omega) (by omega), gm 4 (by omega) (by omega) (by omega), gm 7 (by omega) (by omega) (by omega), gm 8 (by omega) (by omega) (by omega), gm 9 (by omega) (by omega) (by omega), gm 10 (by omega) (by omega) (by omega)]
    omega
  · rw [cfE_n hcf] at hi
    obtain ⟨k1, k2⟩ := hW.2.1 i hi
    refine ⟨WP_cong (fun p _ _ => hm p (by omega) (by omega) (by omega)) k1, ?_⟩
    have z : ∀ k p, 7 ≤ k → k < 19 → p = 11 + 19 * i + k → gI (rsS S) p = 0 := fun k p h7 h19 hp => by
      unfold gI
      rw [rs_s hi ⟨h7, h19⟩ hp, z0T]
    have hti := ht i
    unfold WR
    rw [z 7 (18 + 19 * i) (by omega) (by omega) (by omega), z 8 (19 + 19 * i) (by omega) (by omega) (by omega), z 9 (20 + 19 * i) (by omega) (by omega) (by omega), z 10 (21 + 19 * i) (by omega) (by omega) (by omega), gm 0 (by omega) (by omega) (by omega)]
    exact ⟨by omega, ⟨by omega, by omega, fun _ => by omega⟩, Or.inr (by omega), by omega, fun r _ hr => by omega, fun h => by omega⟩
  · rcases hW.2.2.1 k hk with h | h
    · left
      rw [hm _ (by omega) (by omega) (by omega)]
      exact h
    · right
      have hl := WX_cl hW k hk h.1
      have htk := htc k
      obtain ⟨d0, d1, d2, d3, d4, d5, d6, d7⟩ := h
      have z7 : gI (rsS S) (167 + 27 * k) = 0 := by
        unfold gI
        rw [rs_c h8 hk rfl, z0T]
      rw [z7, gm 1 (by omega) (by omega) (by omega), gm 3 (by omega) (by omega) (by omega), gm (164 + 27 * k) (by omega) (by omega) (by omega), gm (165 + 27 * k) (by omega) (by omega) (by omega), gm (166 + 27 * k) (by omega) (by omega) (by omega), gm (168 + 27 * k) (by omega) (by omega) (by omega), gm (170 + 27 * k) (by omega) (by omega) (by omega), hm (163 + 27 * k) (by omega) (by omega) (by omega), hm (164 + 27 * k) (by omega) (by omega) (by omega), hm (168 + 27 * k) (by omega) (by omega) (by omega), hm (170 + 27 * k) (by omega) (by omega) (by omega), lst_c hcf (CW_of hW) hl]
      exact ⟨d0, d1, d2, d3, by omega, d5, d6, d7⟩
  · rw [gm 3 (by omega) (by omega) (by omega)] at he
    have hE := hW.2.2.2 e he
    unfold WE gI at hE ⊢
    rw [hm (391 + 3 * e) (by omega) (by omega) (by omega), hm (392 + 3 * e) (by omega) (by omega) (by omega), hm (163 + 27 * (S (391 + 3 * e)).toInt.toNat) (by omega) (by omega) (by omega)]
    exact hE
/-- what a restart may change in the class -/
def SRs (σ σ' : Mem) (q : Nat) : Prop := ∀ w k, (w < q ∨ q + 42 ≤ w ∨ (w = q ∧ k ≠ 1) ∨ (q < w ∧ w < q + 10) ∨ (q + 10 ≤ w ∧ w < q + 26 ∧ ((w - q) % 2 = 1 ∨ (k ≠ 12 ∧ k ≠ 13 ∧ k ≠ 16))) ∨ (q + 26 ≤ w ∧ ((w - q) % 2 = 1 ∨ k ≠ 5))) → σ' w k = σ w k
theorem rst_X {σ : Mem} {q : Nat} {S : Nat → Int32} {tS tC : Nat → Int} {b : Int} (hW : WX S tS tC b) (hR : R0 σ q S) : ∃ σ', f_Hub_restartAll q σ = some ((), σ') ∧ R0 σ' q (rsS S) ∧ SRs σ σ' q ∧ (FBq σ q → FBq σ' q) := by
  have h8 := nS_le hW.1
  have h2b := hW.1.2.2.2.1
  have h3b := hW.1.2.2.2.2.1
  have hcf := rs_cf h8
  have hCW := CW_of hW
  have h4n : σ q 4 = S 1 := hR.1.2.2.2.2.1
  have hn1 := hW.1.2.2.1
  unfold f_Hub_restartAll
  rw [lt_eq]
  have sa : ∀ (τ : Mem) (i : Nat), τ q 4 = S 1 → i < nS S → f_Hub_sensorAt q (nI i) τ = some (some (q + 2 + (8 + 2 * i)), τ) := fun τ i h hi => by
    have e : (nI i).toInt = i := nI_toInt (by omega)
    unfold gI at hn1
    unfold nS at hi
    rw [sensorAt_s (by rw [h]; exact hn1.2), h, e, if_pos (by omega)]
    rfl
  have sn : ∀ (τ : Mem) (i : Nat), τ q 4 = S 1 → nS S ≤ i → i < 8 → f_Hub_sensorAt q (nI i) τ = some (none, τ) := fun τ i h hi hi8 => by
    have e : (nI i).toInt = i := nI_toInt (by omega)
    unfold gI at hn1
    unfold nS at hi
    rw [sensorAt_s (by rw [h]; exact hn1.2), h, e, if_neg (by omega)]
  have s0 : SRs σ (wr σ q 1 (σ q 0)) q := fun w k hw => wr_m (by omega)
  obtain ⟨σ1, e1, i1, i2, i3⟩ := loopR (L_Hub_restartAll_10 q (fun σ7 => L_Hub_restartAll_38 q (fun σ12 => some ((), σ12)) FU (0 : Int32) σ7)) (fun σ7 => L_Hub_restartAll_38 q (fun σ12 => some ((), σ12)) FU (0 : Int32) σ7) 8 (fun i τ => SRs σ τ q ∧ τ q 1 = σ q 0 ∧ ∀ k, k < 8 → ((k < nS S ∧ k < i → τ (q + 2 + (8 + 2 * k)) 12 = 0 ∧ τ (q + 2 + (8 + 2 * k)) 16 = 0 ∧ τ (q + 2 + (8 + 2 * k)) 13 = 0) ∧ (¬ (k < nS S ∧ k < i) → τ (q + 2 + (8 + 2 * k)) 13 = σ (q + 2 + (8 + 2 * k)) 13)))
    (fun n τ _ => by show (if (8 : Int32) ≤ nI 8 then _ else _) = _; rw [if_pos (by decide)])
    (fun n i τ hi hI => by
      obtain ⟨i1, i2, i3⟩ := hI
      have h4' : τ q 4 = S 1 := by rw [i1 q 4 (by omega), h4n]
      by_cases hin : i < nS S
      · have hfg : f_Sen_forget (q + 2 + (8 + 2 * i)) τ = some ((), wr (wr (wr τ (q + 2 + (8 + 2 * i)) 12 0) (q + 2 + (8 + 2 * i)) 16 0) (q + 2 + (8 + 2 * i)) 13 0) := by
          unfold f_Sen_forget
          simp only [lt_eq]
        refine ⟨_, (by
          show (if (8 : Int32) ≤ nI i then _ else _) = L_Hub_restartAll_10 q _ n (nI (i + 1)) (wr (wr (wr τ (q + 2 + (8 + 2 * i)) 12 0) (q + 2 + (8 + 2 * i)) 16 0) (q + 2 + (8 + 2 * i)) 13 0)
          rw [if_neg (ge8 hi), bd_eq (sa τ i h4' hin), oe_some, bd_eq hfg, ← nI_succ]), fun w k hw => ?_, ?_, fun k hk => ⟨fun hki => ?_, fun hki => ?_⟩⟩
        · rw [wr_m (by omega), wr_m (by omega), wr_m (by omega)]; exact i1 w k hw
        · rw [wr_m (by omega), wr_m (by omega), wr_m (by omega)]; exact i2
        · by_cases e : k = i
          · subst e
            refine ⟨?_, ?_, ?_⟩
            · rw [wr_m (by omega), wr_m (by omega), wr_h rfl rfl]
            · rw [wr_m (by omega), wr_h rfl rfl]
            · rw [wr_h rfl rfl]
          · rw [wr_other (by omega), wr_other (by omega), wr_other (by omega)]
            exact (i3 k hk).1 (by omega)
        · rw [wr_other (by omega), wr_other (by omega), wr_other (by omega)]
          exact (i3 k hk).2 (by omega)
      · refine ⟨τ, ?_, i1, i2, fun k hk => ⟨fun hki => (i3 k hk).1 (by omega), fun hki => (i3 k hk).2 (by omega)⟩⟩
        show (if (8 : Int32) ≤ nI i then _ else _) = _
        rw [if_neg (ge8 hi), bd_eq (sn τ i h4' (by omega) hi), oe_none, ← nI_succ]) 8 0 FU (wr σ q 1 (σ q 0)) rfl (by decide) ⟨s0, wr_h rfl rfl, fun k hk => ⟨fun h => by omega, fun _ => by rw [wr_m (by omega)]⟩⟩
  obtain ⟨σ2, e2, j1, j2, j3, j4⟩ := loopR (L_Hub_restartAll_38 q (fun σ12 => some ((), σ12))) (fun σ12 => some ((), σ12)) 8 (fun j τ => SRs σ τ q ∧ τ q 1 = σ q 0 ∧ (∀ k, k < 8 → τ (q + 2 + (8 + 2 * k)) = σ1 (q + 2 + (8 + 2 * k))) ∧ ∀ k, k < j → S (163 + 27 * k) = 1 → τ (q + 3 + (23 + 2 * k)) 5 = 0)
    (fun n τ _ => by show (if (8 : Int32) ≤ nI 8 then _ else _) = _; rw [if_pos (by decide)])
    (fun n j τ hj hI => by
      obtain ⟨i1, i2, i3, i4⟩ := hI
      have hc : τ (q + 3 + (23 + 2 * j)) 0 = S (163 + 27 * j) := by
        rw [i1 _ 0 (by omega)]
        exact (hR.2.2.2.2 j hj).1
      by_cases h1 : S (163 + 27 * j) = 1
      · refine ⟨wr τ (q + 3 + (23 + 2 * j)) 5 0, ?_, fun w k hw => ?_, ?_, fun k hk => ?_, fun k hk hk1 => ?_⟩
        · show (if (8 : Int32) ≤ nI j then _ else _) = _
          rw [if_neg (ge8 hj), bd_eq (clientAt_s j (nI_toInt (by omega)) hj), hc, if_neg (by rw [h1]; decide), oe_some, lt_eq, ← nI_succ]
        · rw [wr_m (by omega)]; exact i1 w k hw
        · rw [wr_m (by omega)]; exact i2
        · rw [wr_other (by omega)]; exact i3 k hk
        · by_cases e : k = j
          · subst e; exact wr_h rfl rfl
          · rw [wr_m (by omega)]; exact i4 k (by omega) hk1
      · have h0 : S (163 + 27 * j) = 0 := by
          rcases hW.2.2.1 j hj with h | h
          · exact h
          · exact absurd h.1 h1
        refine ⟨τ, ?_, i1, i2, i3, fun k hk hk1 => ?_⟩
        · show (if (8 : Int32) ≤ nI j then _ else _) = _
          rw [if_neg (ge8 hj), bd_eq (clientAt_s j (nI_toInt (by omega)) hj), hc, if_pos h0, oe_none, ← nI_succ]
        · by_cases e : k = j
          · subst e; exact absurd hk1 h1
          · exact i4 k (by omega) hk1) 8 0 FU σ1 rfl (by decide) ⟨i1, i2, fun _ _ => rfl, fun k hk => by omega⟩
  refine ⟨σ2, e1.trans e2, ?_, j1, fun hB i hi => ?_⟩
  · obtain ⟨hRG, hRO, hRE, hRRS, hRCS⟩ := hR
    have hw : ∀ w, q < w → w < q + 10 → σ2 w = σ w := fun w h1 h2 => funext fun k => j1 w k (by omega)
    have hm : ∀ p, p ≠ 6 → ¬ (11 ≤ p ∧ p < 11 + 19 * nS S ∧ 7 ≤ (p - 11) % 19) → ¬ (163 ≤ p ∧ p < 379 ∧ (p - 163) % 27 = 4) → rsS S p = S p := fun p a1 a2 a3 => rs_m a1 a2 a3
    have gm : ∀ p, p ≠ 6 → ¬ (11 ≤ p ∧ p < 11 + 19 * nS S ∧ 7 ≤ (p - 11) % 19) → ¬ (163 ≤ p ∧ p < 379 ∧ (p - 163) % 27 = 4) → gI (rsS S) p = gI S p := fun p a1 a2 a3 => congrArg Int32.toInt (hm p a1 a2 a3)
    refine ⟨?_, ?_, ?_, fun i hi => ?_, fun j hj => ?_⟩
    · unfold RG at hRG ⊢
      rw [j1 q 0 (by omega), j2, j1 q 2 (by omega), j1 q 3 (by omega), j1 q 4 (by omega), hw (q + 1) (by omega) (by omega), hm 0 (by omega) (by omega) (by omega), show rsS S 6 = S 0 from if_pos rfl, hm 5 (by omega) (by omega) (by omega), hm 4 (by omega) (by omega) (by omega), hm 1 (by omega) (by omega) (by omega)]
      refine ⟨hRG.1, hRG.1, hRG.2.2.1, hRG.2.2.2.1, hRG.2.2.2.2.1, fun c hc => ?_⟩
      rw [hm (7 + c) (by omega) (by omega) (by omega)]
      exact hRG.2.2.2.2.2 c hc
    · unfold RO at hRO ⊢
      rw [hw (q + 4) (by omega) (by omega), hw (q + 4 + 1) (by omega) (by omega), hw (q + 4 + 2) (by omega) (by omega), hw (q + 4 + 3) (by omega) (by omega), gm 2 (by omega) (by omega) (by omega), hm 2 (by omega) (by omega) (by omega)]
      refine ⟨hRO.1, fun o ho2 => ?_⟩
      rw [hm (379 + 3 * o) (by omega) (by omega) (by omega), hm (380 + 3 * o) (by omega) (by omega) (by omega), hm (381 + 3 * o) (by omega) (by omega) (by omega)]
      exact hRO.2 o ho2
    · unfold RE at hRE ⊢
      rw [hw (q + 8) (by omega) (by omega), hw (q + 8 + 1) (by omega) (by omega), gm 3 (by omega) (by omega) (by omega), hm 3 (by omega) (by omega) (by omega)]
      refine ⟨hRE.1, fun e p he hp => ?_⟩
      rw [hm (391 + 3 * e + p) (by omega) (by omega) (by omega)]
      exact hRE.2 e p he hp
    · rw [cfE_n hcf] at hi
      obtain ⟨hP, hr⟩ := hRRS i hi
      have e : ∀ k, k ≠ 12 → k ≠ 13 → k ≠ 16 → σ2 (q + 2 + (8 + 2 * i)) k = σ (q + 2 + (8 + 2 * i)) k := fun k h1 h2 h3 => j1 _ k (by omega)
      obtain ⟨z1, z2, z3⟩ := (i3 i (by omega)).1 ⟨hi, by omega⟩
      have zz : ∀ k p, 7 ≤ k → k < 19 → p = 11 + 19 * i + k → rsS S p = 0 := fun k p h7 h19 hp => rs_s hi ⟨h7, h19⟩ hp
      constructor
      · unfold RP at hP ⊢
        rw [e 0 (by decide) (by decide) (by decide), e 1 (by decide) (by decide) (by decide), e 2 (by decide) (by decide) (by decide), e 3 (by decide) (by decide) (by decide), e 4 (by decide) (by decide) (by decide), e 5 (by decide) (by decide) (by decide), e 6 (by decide) (by decide) (by decide), e 7 (by decide) (by decide) (by decide), e 8 (by decide) (by decide) (by decide), e 9 (by decide) (by decide) (by decide), src_c hcf hCW hi, lst_c hcf hCW hi, hm (11 + 19 * i) (by omega) (by omega) (by omega), hm (12 + 19 * i) (by omega) (by omega) (by omega), hm (13 + 19 * i) (by omega) (by omega) (by omega), hm (14 + 19 * i) (by omega) (by omega) (by omega), hm (15 + 19 * i) (by omega) (by omega) (by omega), hm (16 + 19 * i) (by omega) (by omega) (by omega), hm (17 + 19 * i) (by omega) (by omega) (by omega)]
        exact hP
      · unfold RR gI
        rw [j3 i (by omega), z1, z2, zz 7 (18 + 19 * i) (by omega) (by omega) (by omega), zz 10 (21 + 19 * i) (by omega) (by omega) (by omega), z0T]
        exact ⟨rfl, fun h => by omega, rfl, fun k _ hk => by omega⟩
    · have hc := hRCS j hj
      have e : ∀ k, k ≠ 5 → σ2 (q + 3 + (23 + 2 * j)) k = σ (q + 3 + (23 + 2 * j)) k := fun k h1 => j1 _ k (by omega)
      have e2 : σ2 (q + 3 + (23 + 2 * j) + 1) = σ (q + 3 + (23 + 2 * j) + 1) := funext fun k => j1 _ k (by omega)
      rw [e2]
      unfold RC at hc ⊢
      rw [e 0 (by decide), e 1 (by decide), e 2 (by decide), e 3 (by decide), e 6 (by decide), e 7 (by decide), e 8 (by decide), e 9 (by decide), hm (163 + 27 * j) (by omega) (by omega) (by omega), hm (164 + 27 * j) (by omega) (by omega) (by omega), hm (165 + 27 * j) (by omega) (by omega) (by omega), hm (166 + 27 * j) (by omega) (by omega) (by omega), hm (168 + 27 * j) (by omega) (by omega) (by omega), hm (169 + 27 * j) (by omega) (by omega) (by omega), hm (170 + 27 * j) (by omega) (by omega) (by omega), hm (171 + 27 * j) (by omega) (by omega) (by omega), rs_c (p := 167 + 27 * j) h8 hj rfl, gm (168 + 27 * j) (by omega) (by omega) (by omega)]
      refine ⟨hc.1, fun h1 => ?_⟩
      obtain ⟨⟨a1, a2, a3, a5, a6, a7, a9, a8⟩, al⟩ := hc.2 h1
      refine ⟨⟨a1, a2, a3, j4 j hj h1, a6, a7, a9, a8⟩, fun d p hd hdD hp => ?_⟩
      rw [hm (172 + 27 * j + 3 * d + p) (by omega) (by omega) (by omega)]
      exact al d p hd hdD hp
  · rw [j3 i hi]
    by_cases h : i < nS S ∧ i < 8
    · exact Or.inl ((i3 i hi).1 h).2.2
    · rw [(i3 i hi).2 h]
      exact hB i hi
