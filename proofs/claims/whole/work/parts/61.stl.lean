/-! the class sets strides; what is settled; the reference restarts -/
def stl (S O : Nat → Int32) : Nat → Int32 := if chF S O (nS S) = 0 then S else rsS S
theorem quo_s {x d : Int32} {σ : Mem} (hx : 0 ≤ x.toInt) (hd : 0 < d.toInt) : ∃ y, f_X_quotient x d σ = some (y, σ) ∧ y.toInt = x.toInt / d.toInt := by
  have hne : d ≠ -1 := fun h => by rw [h] at hd; exact absurd hd (by decide)
  have h0 : ¬ d = 0 := fun h => by rw [h] at hd; exact absurd hd (by decide)
  refine ⟨x / d, ?_, ?_⟩
  · unfold f_X_quotient f_Mat_floorDiv
    rw [if_neg (by rw [Int32.le_iff_toInt_le, z0T]; omega), if_neg h0, lt_eq, if_pos ((xor_sign x d).mpr (by omega)), bd_some]
  · rw [tD hne, Int.tdiv_eq_ediv_of_nonneg hx]
theorem str_X {σ : Mem} {q : Nat} {S : Nat → Int32} {tS tC : Nat → Int} {b : Int} (hW : WX S tS tC b) (hR : R0 σ q S) (h11 : ∀ k, k < nS S → σ (q + 2 + (8 + 2 * k)) 11 = pd S k) : ∃ σ', L_Hub_settlePeriods_17 q (fun σ14 => some ((), σ14)) FU (0 : Int32) σ = some ((), σ') ∧ S04 σ σ' q ∧ ∀ j, j < 8 → RK (σ' (q + 3 + (23 + 2 * j))) S j := by
  have h8 := nS_le hW.1
  have hCW := CW_of hW
  have hCL := CL_of hW
  obtain ⟨σ', e, i1, i2⟩ := loopR (L_Hub_settlePeriods_17 q (fun σ14 => some ((), σ14))) (fun σ14 => some ((), σ14)) 8 (fun j τ => S04 σ τ q ∧ ∀ k, k < 8 → k < j → RK (τ (q + 3 + (23 + 2 * k))) S k)
    (fun n τ _ => by show (if (8 : Int32) ≤ nI 8 then _ else _) = _; rw [if_pos (by decide)])
    (fun n j τ hj hI => by
      obtain ⟨i1, i2⟩ := hI
      have hR' := R0_SX hW.1 (SX_04 i1) hR
      have hc := hR'.2.2.2.2 j hj
      by_cases h1 : S (163 + 27 * j) = 1
      · obtain ⟨⟨c0, c1⟩, c2, c3⟩ := hCL j hj h1
        obtain ⟨⟨a1, a2, _⟩, _⟩ := hc.2 h1
        have ef : S (164 + 27 * j) = nI (S (164 + 27 * j)).toInt.toNat := toNI c0
        obtain ⟨hd9, hdl⟩ := dm_cl hCW hCL hj h1
        have hp := pd_in hCW hCL c1 hd9
        have hpf : τ (q + 2 + (8 + 2 * (S (164 + 27 * j)).toInt.toNat)) 11 = pd S (S (164 + 27 * j)).toInt.toNat := by
          rw [i1 _ _ (by omega)]
          exact h11 _ c1
        unfold gI at c2
        obtain ⟨y, ey, hy⟩ := quo_s (x := S (165 + 27 * j)) (d := pd S (S (164 + 27 * j)).toInt.toNat) (σ := τ) (by omega) (by omega)
        have hsa := sensorAt_n hW.1 hR'.1 c1
        rw [← ef] at hsa
        refine ⟨wr τ (q + 3 + (23 + 2 * j)) 4 y, ?_, fun w k hw => ?_, fun k hk hkj => ?_⟩
        · show (if (8 : Int32) ≤ nI j then _ else _) = _
          rw [if_neg (ge8 hj), bd_eq (clientAt_s j (nI_toInt (by omega)) hj), hc.1, if_neg (by rw [h1]; decide), oe_some, a1, bd_eq hsa, oe_some, a2, hpf, bd_eq ey, lt_eq, ← nI_succ]
        · rw [wr_m (by omega)]; exact i1 w k hw
        · by_cases e : k = j
          · subst e
            intro _
            rw [wr_h rfl rfl]
            exact hy
          · rw [wr_other (by omega)]
            exact i2 k hk (by omega)
      · have h0 : S (163 + 27 * j) = 0 := by
          rcases hW.2.2.1 j hj with h | h
          · exact h
          · exact absurd h.1 h1
        refine ⟨τ, ?_, i1, fun k hk hkj => ?_⟩
        · show (if (8 : Int32) ≤ nI j then _ else _) = _
          rw [if_neg (ge8 hj), bd_eq (clientAt_s j (nI_toInt (by omega)) hj), hc.1, if_pos h0, oe_none, ← nI_succ]
        · by_cases e : k = j
          · subst e
            intro h
            exact absurd h h1
          · exact i2 k hk (by omega)) 8 0 FU σ rfl (by decide) ⟨fun _ _ _ => rfl, fun k _ hk => by omega⟩
  exact ⟨σ', e, i1, fun j hj => i2 j hj hj⟩
theorem settle_X {σ : Mem} {q : Nat} {S O : Nat → Int32} {tS tC : Nat → Int} {b : Int} (hW : WX S tS tC b) (ht : ∀ i, 0 ≤ tS i) (htc : ∀ j, 0 ≤ tC j) (hR : R0 σ q S) (hO : ∀ k, k < nS S → σ (q + 2 + (8 + 2 * k)) 11 = O k) : ∃ σ', f_Hub_settlePeriods q σ = some ((), σ') ∧ RH σ' q (stl S O) ∧ (∀ w, (w < q ∨ q + 42 ≤ w) → σ' w = σ w) ∧ (FBq σ q → FBq σ' q) ∧ ∀ j, j < 8 → σ' (q + 3 + (23 + 2 * j)) 6 = σ (q + 3 + (23 + 2 * j)) 6 := by
  have h8 := nS_le hW.1
  have hCW := CW_of hW
  obtain ⟨σ1, e1, s1, d1⟩ := setD_X hW hR
  have hR1 := R0_SX hW.1 (SX_10 s1) hR
  obtain ⟨σ2, e2, s2, p2⟩ := setP_X (O := O) hW hR1 d1 (fun k hk => by rw [s1 _ _ (by omega)]; exact hO k hk)
  have hR2 := R0_SX hW.1 (SX_11 s2) hR1
  have d2 : ∀ k, k < nS S → σ2 (q + 2 + (8 + 2 * k)) 10 = dm S k := fun k hk => by rw [s2 _ _ (by omega)]; exact d1 k hk
  unfold f_Hub_settlePeriods stl
  rw [bd_eq e1, bd_eq e2]
  by_cases hc : chF S O (nS S) = 0
  · obtain ⟨σ3, e3, s3, k3⟩ := str_X hW hR2 p2
    rw [if_pos hc, if_pos hc]
    refine ⟨σ3, e3, R0_RH (R0_SX hW.1 (SX_04 s3) hR2) (fun i hi => ⟨?_, ?_⟩) k3, fun w hw => funext fun k => ?_, fun hB i hi => ?_, fun j hj => ?_⟩
    · rw [s3 _ _ (by omega)]; exact d2 i hi
    · rw [s3 _ _ (by omega)]; exact p2 i hi
    · rw [s3 _ _ (by omega), s2 _ _ (by omega), s1 _ _ (by omega)]
    · rw [s3 _ _ (by omega), s2 _ _ (by omega), s1 _ _ (by omega)]
      exact hB i hi
    · rw [s3 _ _ (by omega), s2 _ _ (by omega), s1 _ _ (by omega)]
  · obtain ⟨σr, er, rr, sr, br⟩ := rst_X hW hR2
    have hcf := rs_cf h8
    have hnn := cfE_n hcf
    have hWr := rs_W hW ht htc
    have pr : ∀ k, k < nS (rsS S) → σr (q + 2 + (8 + 2 * k)) 11 = pd (rsS S) k := fun k hk => by
      rw [hnn] at hk
      rw [sr _ _ (by omega), p2 k hk, pd_c hcf hCW hk]
    obtain ⟨σ3, e3, s3, k3⟩ := str_X hWr rr pr
    rw [if_neg hc, if_neg hc, bd_eq er]
    refine ⟨σ3, e3, R0_RH (R0_SX hWr.1 (SX_04 s3) rr) (fun i hi => ⟨?_, ?_⟩) k3, fun w hw => funext fun k => ?_, fun hB i hi => ?_, fun j hj => ?_⟩
    · rw [hnn] at hi
      rw [s3 _ _ (by omega), sr _ _ (by omega), d2 i hi, dm_c hcf hCW]
    · rw [s3 _ _ (by omega)]; exact pr i hi
    · rw [s3 _ _ (by omega), sr _ _ (by omega), s2 _ _ (by omega), s1 _ _ (by omega)]
    · rw [s3 _ _ (by omega)]
      refine br (fun i hi => ?_) i hi
      rw [s2 _ _ (by omega), s1 _ _ (by omega)]
      exact hB i hi
    · rw [s3 _ _ (by omega), sr _ _ (by omega), s2 _ _ (by omega), s1 _ _ (by omega)]
def rA (S : Nat → Int32) (m : Nat) : Nat → Int32 := fun p => if 11 ≤ p ∧ p < 11 + 19 * m ∧ 7 ≤ (p - 11) % 19 then 0 else upS S 6 (S 0) p
def rB (T : Nat → Int32) (m : Nat) : Nat → Int32 := fun p => if 163 ≤ p ∧ p < 163 + 27 * m ∧ (p - 163) % 27 = 4 then 0 else T p
theorem r93_M {τ : Mem} {i : Nat} {T : Nat → Int32} {K : Mem → Option (Unit × Mem)} (hi : i < 8) : L_M_restartIfChanged_93 299 (nI i) K FU (7 : Int32) (wrow τ 300 T) = K (wrow τ 300 (fun p => if 18 + 19 * i ≤ p ∧ p < 30 + 19 * i then 0 else T p)) := by
  obtain ⟨σ', e, _, rfl⟩ := loopR (L_M_restartIfChanged_93 299 (nI i) K) K 19 (fun x σ => 7 ≤ x ∧ σ = wrow τ 300 (fun p => if 18 + 19 * i ≤ p ∧ p < 11 + 19 * i + x then 0 else T p))
    (fun n σ _ => by show (if (19 : Int32) ≤ nI 19 then _ else _) = _; rw [if_pos (by decide)])
    (fun n x σ hx hI => by
      obtain ⟨h7, rfl⟩ := hI
      refine ⟨_, ?_, by omega, rfl⟩
      have e9 : (11 : Int32) + 19 * nI i + nI x = nI (11 + 19 * i + x) := by rw [nI_Lm, nI_La, nI_add]
      show (if (19 : Int32) ≤ nI x then _ else _) = _
      rw [if_neg (show ¬ (19 : Int32) ≤ nI x from nI_ge hx (by decide)), e9, if_pos (ib_nI (by omega) (by decide)), lt_eq, nI_clamp (by omega), ← nI_succ]
      simp only [Nat.reduceAdd]
      rw [wr_row, wrow_h, wrow_2]
      refine congrArg (fun f => L_M_restartIfChanged_93 299 (nI i) K n (nI (x + 1)) (wrow τ 300 f)) ?_
      funext p
      by_cases e : p = 11 + 19 * i + x
      · rw [upS_h e, if_pos (by omega)]
      · rw [upS_m e]
        by_cases h : 18 + 19 * i ≤ p ∧ p < 11 + 19 * i + x
        · rw [if_pos h, if_pos (by omega)]
        · rw [if_neg h, if_neg (by omega)]) 12 7 FU (wrow τ 300 T) rfl (by decide) ⟨by omega, by
      refine congrArg (wrow τ 300) ?_
      funext p
      rw [if_neg (by omega)]⟩
  rw [show 11 + 19 * i + 19 = 30 + 19 * i by omega] at e
  exact e
theorem r80_M {τ : Mem} {S : Nat → Int32} {b : Int} {K : Mem → Option (Unit × Mem)} (hG : WG S b) : L_M_restartIfChanged_80 299 K FU (0 : Int32) (wrow τ 300 (upS S 6 (S 0))) = K (wrow τ 300 (rA S (nS S))) := by
  have h8 := nS_le hG
  have en := nS_toI hG
  obtain ⟨σ', e, rfl⟩ := loopR (L_M_restartIfChanged_80 299 K) K (nS S) (fun i σ => σ = wrow τ 300 (rA S i))
    (fun n σ hI => by
      subst hI
      show (if wrow τ 300 (rA S (nS S)) 300 1 ≤ nI (nS S) then _ else _) = _
      have : rA S (nS S) 1 = nI (nS S) := by
        unfold rA
        rw [if_neg (by omega), upS_m (by omega), ← en]
      rw [wrow_h, this, if_pos (nI_le (Nat.le_refl _) (by omega))])
    (fun n i σ hi hI => by
      subst hI
      refine ⟨_, ?_, rfl⟩
      have h1 : rA S i 1 = nI (nS S) := by
        unfold rA
        rw [if_neg (by omega), upS_m (by omega), ← en]
      generalize hL : L_M_restartIfChanged_80 299 K n = Lr
      unfold L_M_restartIfChanged_80
      rw [hL]
      simp only [Nat.reduceAdd]
      rw [wrow_h, h1, if_neg (nI_ge hi (by omega)), r93_M (by omega), ← nI_succ]
      refine congrArg (fun f => Lr (nI (i + 1)) (wrow τ 300 f)) ?_
      funext p
      unfold rA
      by_cases h : 18 + 19 * i ≤ p ∧ p < 30 + 19 * i
      · rw [if_pos h, if_pos (by omega)]
      · rw [if_neg h]
        by_cases h2 : 11 ≤ p ∧ p < 11 + 19 * i ∧ 7 ≤ (p - 11) % 19
        · rw [if_pos h2, if_pos (by omega)]
        · rw [if_neg h2, if_neg (by omega)]) (nS S) 0 FU (wrow τ 300 (upS S 6 (S 0))) (by omega) (by show _ < 4096; omega) (by
      refine congrArg (wrow τ 300) ?_
      funext p
      unfold rA
      rw [if_neg (by omega)])
  exact e
theorem r128_M {τ : Mem} {T : Nat → Int32} {K : Mem → Option (Unit × Mem)} : L_M_restartIfChanged_128 299 K FU (0 : Int32) (wrow τ 300 T) = K (wrow τ 300 (rB T 8)) := by
  obtain ⟨σ', e, rfl⟩ := loopR (L_M_restartIfChanged_128 299 K) K 8 (fun j σ => σ = wrow τ 300 (rB T j))
    (fun n σ hI => by show (if (8 : Int32) ≤ nI 8 then _ else _) = _; rw [if_pos (by decide)])
    (fun n j σ hj hI => by
      subst hI
      refine ⟨_, ?_, rfl⟩
      have e9 : (163 : Int32) + 27 * nI j + 4 = nI (167 + 27 * j) := by
        rw [nI_Lm, nI_La, nI_aL]
        exact congrArg nI (by omega)
      show (if (8 : Int32) ≤ nI j then _ else _) = _
      rw [if_neg (ge8 hj), e9, if_pos (ib_nI (by omega) (by decide)), lt_eq, nI_clamp (by omega), ← nI_succ]
      simp only [Nat.reduceAdd]
      rw [wr_row, wrow_h, wrow_2]
      refine congrArg (fun f => L_M_restartIfChanged_128 299 K n (nI (j + 1)) (wrow τ 300 f)) ?_
      funext p
      unfold rB
      by_cases e : p = 167 + 27 * j
      · rw [upS_h e, if_pos (by omega)]
      · rw [upS_m e]
        by_cases h : 163 ≤ p ∧ p < 163 + 27 * j ∧ (p - 163) % 27 = 4
        · rw [if_pos h, if_pos (by omega)]
        · rw [if_neg h, if_neg (by omega)]) 8 0 FU (wrow τ 300 T) rfl (by decide) (by
      refine congrArg (wrow τ 300) ?_
      funext p
      unfold rB
      rw [if_neg (by omega)])
  exact e
theorem rs_eq {S : Nat → Int32} : rB (rA S (nS S)) 8 = rsS S := by
  funext p
  unfold rB rA rsS
  by_cases h6 : p = 6
  · subst h6
    rw [if_neg (by omega), if_neg (by omega), upS_h rfl, if_pos rfl]
  · rw [if_neg h6, upS_m h6]
    by_cases h2 : 163 ≤ p ∧ p < 163 + 27 * 8 ∧ (p - 163) % 27 = 4
    · rw [if_pos h2]
      by_cases h1 : 11 ≤ p ∧ p < 11 + 19 * nS S ∧ 7 ≤ (p - 11) % 19
      · rw [if_pos h1]
      · rw [if_neg h1, if_pos (by omega)]
    · rw [if_neg h2]
      by_cases h1 : 11 ≤ p ∧ p < 11 + 19 * nS S ∧ 7 ≤ (p - 11) % 19
      · rw [if_pos h1, if_pos h1]
      · rw [if_neg h1, if_neg h1, if_neg (by omega)]
theorem ric_M {τ : Mem} {S O : Nat → Int32} {tS tC : Nat → Int} {b : Int} (h300 : τ 300 = S) (hW : WX S tS tC b) (hO : ∀ k, k < nS S → τ 306 k = O k) : ∃ D P, f_M_restartIfChanged 299 τ = some ((), wrow (wrow (wrow τ 304 D) 305 P) 300 (stl S O)) := by
  subst h300
  have h8 := nS_le hW.1
  have hCW := CW_of hW
  have en := nS_toI hW.1
  obtain ⟨z, D, P, e, h1, h2⟩ := find_M hCW hW.1.2.2.1.1
  refine ⟨D, P, ?_⟩
  unfold f_M_restartIfChanged
  rw [bd_eq e]
  have u300 : wrow (wrow τ 304 D) 305 P 300 = τ 300 := by rw [wrow_m (by decide), wrow_m (by decide)]
  have u305 : wrow (wrow τ 304 D) 305 P 305 = P := wrow_h
  have u306 : wrow (wrow τ 304 D) 305 P 306 = τ 306 := by rw [wrow_m (by decide), wrow_m (by decide)]
  generalize hτ : wrow (wrow τ 304 D) 305 P = τ1 at *
  obtain ⟨a, σ', e2, ha, hs⟩ := loopA (L_M_restartIfChanged_9 299 (fun z5 σ6 => if z5 = 0 then some ((), σ6) else lt (wr σ6 (299 + 1) 6 (σ6 (299 + 1) 0)) fun σ7 => L_M_restartIfChanged_80 299 (fun σ10 => L_M_restartIfChanged_128 299 (fun σ12 => some ((), σ12)) FU (0 : Int32) σ10) FU (0 : Int32) σ7)) (fun z5 σ6 => if z5 = 0 then some ((), σ6) else lt (wr σ6 (299 + 1) 6 (σ6 (299 + 1) 0)) fun σ7 => L_M_restartIfChanged_80 299 (fun σ10 => L_M_restartIfChanged_128 299 (fun σ12 => some ((), σ12)) FU (0 : Int32) σ10) FU (0 : Int32) σ7) (nS (τ 300)) (fun i a σ => a = chF (τ 300) O i ∧ σ = τ1)
    (fun n a σ hI => by
      obtain ⟨_, rfl⟩ := hI
      show (if σ 300 1 ≤ nI (nS (τ 300)) then _ else _) = _
      rw [show σ 300 1 = nI (nS (τ 300)) by rw [u300, en], if_pos (nI_le (Nat.le_refl _) (by omega))])
    (fun n i a σ hi hI => by
      obtain ⟨rfl, rfl⟩ := hI
      refine ⟨chF (τ 300) O (i + 1), σ, ?_, rfl, rfl⟩
      have hst : chF (τ 300) O (i + 1) = if τ 300 (11 + 19 * i) = 4 ∧ pd (τ 300) i ≠ O i then 1 else chF (τ 300) O i := rfl
      have hib : ib (nI i) 8 := ib_nI (by omega) (by decide)
      have hcl : (nI i).toNatClampNeg = i := nI_clamp (by omega)
      generalize hK : (fun (z5 : Int32) σ6 => if z5 = 0 then some ((), σ6) else lt (wr σ6 (299 + 1) 6 (σ6 (299 + 1) 0)) fun σ7 => L_M_restartIfChanged_80 299 (fun σ10 => L_M_restartIfChanged_128 299 (fun σ12 => some ((), σ12)) FU (0 : Int32) σ10) FU (0 : Int32) σ7) = KK
      generalize hL : L_M_restartIfChanged_9 299 KK n = Lr
      unfold L_M_restartIfChanged_9
      rw [hL]
      simp only [Nat.reduceAdd]
      rw [show σ 300 1 = nI (nS (τ 300)) by rw [u300, en], if_neg (nI_ge hi (by omega)), hst, ← nI_succ]
      rcases chF_01 (S := τ 300) (O := O) i with hc | hc
      · rw [hc, if_pos rfl, bsen (p := 11 + 19 * i) 0 0 (by decide) (by omega) (by decide) (by omega), u300]
        by_cases h4 : τ 300 (11 + 19 * i) = 4
        · rw [if_pos h4, if_pos hib, if_pos hib, hcl, u305, u306, h2 i hi, hO i hi]
          by_cases hp : pd (τ 300) i = O i
          · rw [if_pos hp, if_neg (fun z => z.2 hp)]
          · rw [if_neg hp, if_pos ⟨h4, hp⟩]
        · rw [if_neg h4, if_neg (fun z => h4 z.1)]
      · rw [hc, if_neg i1n, ite_self]) (nS (τ 300)) 0 FU 0 τ1 (by omega) (by show _ < 4096; omega) ⟨rfl, rfl⟩
  refine Eq.trans e2 ?_
  rw [ha, hs]
  unfold stl
  by_cases hc : chF (τ 300) O (nS (τ 300)) = 0
  · rw [if_pos hc, if_pos hc, ← u300, wrow_id]
  · rw [if_neg hc, if_neg hc, lt_eq]
    simp only [Nat.reduceAdd]
    rw [u300, wr_row, u300, r80_M hW.1, r128_M, rs_eq]
