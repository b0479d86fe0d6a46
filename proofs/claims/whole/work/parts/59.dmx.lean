/-! the class settles its demands -/
def S10 (σ σ' : Mem) (q : Nat) : Prop := ∀ w k, (w < q + 10 ∨ q + 26 ≤ w ∨ k ≠ 10) → σ' w k = σ w k
def S11 (σ σ' : Mem) (q : Nat) : Prop := ∀ w k, (w < q + 10 ∨ q + 26 ≤ w ∨ k ≠ 11) → σ' w k = σ w k
def S04 (σ σ' : Mem) (q : Nat) : Prop := ∀ w k, (w < q + 26 ∨ q + 42 ≤ w ∨ ¬ (k = 4 ∧ (w - q) % 2 = 0)) → σ' w k = σ w k
def SXs (σ σ' : Mem) (q : Nat) : Prop := ∀ w k, (w < q + 10 ∨ q + 42 ≤ w ∨ (w < q + 26 ∧ k ≠ 10 ∧ k ≠ 11) ∨ (q + 26 ≤ w ∧ ¬ (k = 4 ∧ (w - q) % 2 = 0))) → σ' w k = σ w k
theorem SX_10 {σ σ' : Mem} {q : Nat} (h : S10 σ σ' q) : SXs σ σ' q := fun w k hw => h w k (by omega)
theorem SX_11 {σ σ' : Mem} {q : Nat} (h : S11 σ σ' q) : SXs σ σ' q := fun w k hw => h w k (by omega)
theorem SX_04 {σ σ' : Mem} {q : Nat} (h : S04 σ σ' q) : SXs σ σ' q := fun w k hw => h w k (by omega)
theorem SX_tr {σ σ' σ'' : Mem} {q : Nat} (h : SXs σ σ' q) (h' : SXs σ' σ'' q) : SXs σ σ'' q := fun w k hw => (h' w k hw).trans (h w k hw)
theorem S10_tr {σ σ' σ'' : Mem} {q : Nat} (h : S10 σ σ' q) (h' : S10 σ' σ'' q) : S10 σ σ'' q := fun w k hw => (h' w k hw).trans (h w k hw)
/-- a hub and a row, but for demands, periods and strides -/
def R0 (σ : Mem) (q : Nat) (S : Nat → Int32) : Prop := RG σ q S ∧ RO σ q S ∧ RE σ q S ∧ (∀ i, i < nS S → RP (σ (q + 2 + (8 + 2 * i))) S i ∧ RR (σ (q + 2 + (8 + 2 * i))) (σ (q + 2 + (8 + 2 * i) + 1)) S i) ∧ ∀ j, j < 8 → RC (σ (q + 3 + (23 + 2 * j))) (σ (q + 3 + (23 + 2 * j) + 1)) S j
theorem R0_RH {σ : Mem} {q : Nat} {S : Nat → Int32} (h : R0 σ q S) (hD : ∀ i, i < nS S → RD (σ (q + 2 + (8 + 2 * i))) S i) (hK : ∀ j, j < 8 → RK (σ (q + 3 + (23 + 2 * j))) S j) : RH σ q S :=
  ⟨h.1, h.2.1, h.2.2.1, fun i hi => ⟨(h.2.2.2.1 i hi).1, (h.2.2.2.1 i hi).2, hD i hi⟩, fun j hj => ⟨h.2.2.2.2 j hj, hK j hj⟩⟩
theorem R0_SX {σ σ' : Mem} {q : Nat} {S : Nat → Int32} {b : Int} (hG : WG S b) (hs : SXs σ σ' q) (h : R0 σ q S) : R0 σ' q S := by
  have h8 := nS_le hG
  have hw : ∀ w, w < q + 10 → σ' w = σ w := fun w h => funext fun k => hs w k (Or.inl h)
  obtain ⟨hRG, hRO, hRE, hRRS, hRCS⟩ := h
  refine ⟨?_, ?_, ?_, fun i hi => ?_, fun j hj => ?_⟩
  · unfold RG at hRG ⊢
    rw [hw q (by omega), hw (q + 1) (by omega)]
    exact hRG
  · unfold RO at hRO ⊢
    rw [hw (q + 4) (by omega), hw (q + 4 + 1) (by omega), hw (q + 4 + 2) (by omega), hw (q + 4 + 3) (by omega)]
    exact hRO
  · unfold RE at hRE ⊢
    rw [hw (q + 8) (by omega), hw (q + 8 + 1) (by omega)]
    exact hRE
  · obtain ⟨hP, hr⟩ := hRRS i hi
    have e : ∀ k, k ≠ 10 → k ≠ 11 → σ' (q + 2 + (8 + 2 * i)) k = σ (q + 2 + (8 + 2 * i)) k := fun k h1 h2 => hs _ k (by omega)
    have e2 : ∀ k, k < 8 → σ' (q + 2 + (8 + 2 * i) + 1) k = σ (q + 2 + (8 + 2 * i) + 1) k := fun k h1 => hs _ k (by omega)
    constructor
    · unfold RP at hP ⊢
      rw [e 0 (by decide) (by decide), e 1 (by decide) (by decide), e 2 (by decide) (by decide), e 3 (by decide) (by decide), e 4 (by decide) (by decide), e 5 (by decide) (by decide), e 6 (by decide) (by decide), e 7 (by decide) (by decide), e 8 (by decide) (by decide), e 9 (by decide) (by decide)]
      exact hP
    · unfold RR at hr ⊢
      rw [e 12 (by decide) (by decide), e 14 (by decide) (by decide), e 15 (by decide) (by decide), e 16 (by decide) (by decide)]
      refine ⟨hr.1, hr.2.1, hr.2.2.1, fun k hk hg => ?_⟩
      rw [e2 k hk]
      exact hr.2.2.2 k hk hg
  · have hc := hRCS j hj
    have e : ∀ k, k ≠ 4 → σ' (q + 3 + (23 + 2 * j)) k = σ (q + 3 + (23 + 2 * j)) k := fun k h1 => hs _ k (by omega)
    have e2 : σ' (q + 3 + (23 + 2 * j) + 1) = σ (q + 3 + (23 + 2 * j) + 1) := funext fun k => hs _ k (by omega)
    rw [e2]
    unfold RC at hc ⊢
    rw [e 0 (by decide), e 1 (by decide), e 2 (by decide), e 3 (by decide), e 5 (by decide), e 6 (by decide), e 7 (by decide), e 8 (by decide), e 9 (by decide)]
    exact hc
theorem dem_s {q : Nat} {p : Int32} {σ : Mem} (hp : p ≠ -9) : f_Sen_demandAtMost q p σ = some ((), wr σ q 10 (less (σ q 10) p)) := by
  unfold f_Sen_demandAtMost less
  by_cases h1 : σ q 10 = -9
  · rw [if_pos h1, if_pos h1, lt_eq]
  · rw [if_neg h1, if_neg h1, if_neg hp]
    by_cases h2 : σ q 10 ≤ p
    · rw [if_pos h2]
      by_cases h3 : σ q 10 < p
      · rw [if_pos h3, wr_id rfl]
      · rw [if_neg h3]
        have : σ q 10 = p := by
          rw [Int32.le_iff_toInt_le] at h2
          rw [Int32.lt_iff_toInt_lt] at h3
          rw [tE]; omega
        rw [wr_id this]
    · rw [if_neg h2, if_neg (fun h => h2 (by rw [Int32.lt_iff_toInt_lt] at h; rw [Int32.le_iff_toInt_le]; omega)), lt_eq]
theorem hdem_s {σ : Mem} {q i : Nat} {S : Nat → Int32} {b : Int} {p : Int32} (hG : WG S b) (hR : RG σ q S) (hi : i < nS S) (hp : p ≠ -9) : f_Hub_demandAtMost q (nI i) p σ = some ((), wr σ (q + 2 + (8 + 2 * i)) 10 (less (σ (q + 2 + (8 + 2 * i)) 10) p)) := by
  unfold f_Hub_demandAtMost
  rw [bd_eq (sensorAt_n hG hR hi), oe_some, bd_eq (dem_s hp)]
theorem less_2x {a b : Int32} : less (less a b) b = less a b := by
  unfold less
  by_cases h1 : a = -9
  · rw [if_pos h1]
    by_cases h2 : b = -9
    · rw [if_pos h2]
    · rw [if_neg h2, if_neg h2, ite_self]
  · rw [if_neg h1]
    by_cases h2 : b = -9
    · rw [if_pos h2, if_neg h1, if_pos h2]
    · rw [if_neg h2]
      by_cases h3 : a < b
      · rw [if_pos h3, if_neg h1, if_neg h2, if_pos h3]
      · rw [if_neg h3, if_neg h2, if_neg h2, ite_self]
theorem setD_X {σ : Mem} {q : Nat} {S : Nat → Int32} {tS tC : Nat → Int} {b : Int} (hW : WX S tS tC b) (hR : R0 σ q S) : ∃ σ', f_Hub_setDemands q σ = some ((), σ') ∧ S10 σ σ' q ∧ ∀ k, k < nS S → σ' (q + 2 + (8 + 2 * k)) 10 = dm S k := by
  have h8 := nS_le hW.1
  have hCW := CW_of hW
  have hCL := CL_of hW
  have kp : ∀ {τ : Mem}, S10 σ τ q → R0 τ q S := fun h => R0_SX hW.1 (SX_10 h) hR
  unfold f_Hub_setDemands
  obtain ⟨σ1, e1, i1, i2⟩ := loopR (L_Hub_setDemands_2 q (fun σ5 => L_Hub_setDemands_32 q (fun σ11 => L_Hub_setDemands_69 q (fun σ19 => some ((), σ19)) FU (7 : Int32) σ11) FU (0 : Int32) σ5)) (fun σ5 => L_Hub_setDemands_32 q (fun σ11 => L_Hub_setDemands_69 q (fun σ19 => some ((), σ19)) FU (7 : Int32) σ11) FU (0 : Int32) σ5) 8 (fun i τ => S10 σ τ q ∧ ∀ k, k < nS S → k < i → τ (q + 2 + (8 + 2 * k)) 10 = -9)
    (fun n τ _ => by show (if (8 : Int32) ≤ nI 8 then _ else _) = _; rw [if_pos (by decide)])
    (fun n i τ hi hI => by
      obtain ⟨i1, i2⟩ := hI
      by_cases hin : i < nS S
      · refine ⟨wr τ (q + 2 + (8 + 2 * i)) 10 (-9), ?_, fun w k hw => ?_, fun k hk hki => ?_⟩
        · show (if (8 : Int32) ≤ nI i then _ else _) = _
          rw [if_neg (ge8 hi), bd_eq (sensorAt_n hW.1 (kp i1).1 hin), oe_some, lt_eq, ← nI_succ]
        · rw [wr_m (by omega)]; exact i1 w k hw
        · by_cases e : k = i
          · subst e; exact wr_h rfl rfl
          · rw [wr_m (by omega)]; exact i2 k hk (by omega)
      · refine ⟨τ, ?_, i1, fun k hk hki => i2 k hk (by omega)⟩
        show (if (8 : Int32) ≤ nI i then _ else _) = _
        rw [if_neg (ge8 hi), bd_eq (sensorAt_0 hW.1 (kp i1).1 (by omega) (by omega)), oe_none, ← nI_succ]) 8 0 FU σ rfl (by decide) ⟨fun _ _ _ => rfl, fun k _ hk => by omega⟩
  obtain ⟨σ2, e2, j1, j2⟩ := loopR (L_Hub_setDemands_32 q (fun σ11 => L_Hub_setDemands_69 q (fun σ19 => some ((), σ19)) FU (7 : Int32) σ11)) (fun σ11 => L_Hub_setDemands_69 q (fun σ19 => some ((), σ19)) FU (7 : Int32) σ11) 8 (fun j τ => S10 σ τ q ∧ ∀ k, k < nS S → τ (q + 2 + (8 + 2 * k)) 10 = askF S k j)
    (fun n τ _ => by show (if (8 : Int32) ≤ nI 8 then _ else _) = _; rw [if_pos (by decide)])
    (fun n j τ hj hI => by
      obtain ⟨i1, i2⟩ := hI
      have hR' := kp i1
      have hc := hR'.2.2.2.2 j hj
      have hstep : ∀ k, askF S k (j + 1) = if S (163 + 27 * j) = 1 ∧ S (164 + 27 * j) = nI k then less (askF S k j) (S (165 + 27 * j)) else askF S k j := fun k => rfl
      by_cases h1 : S (163 + 27 * j) = 1
      · obtain ⟨⟨c0, c1⟩, c2, c3⟩ := hCL j hj h1
        obtain ⟨⟨a1, a2, _⟩, _⟩ := hc.2 h1
        have ef : S (164 + 27 * j) = nI (S (164 + 27 * j)).toInt.toNat := toNI c0
        have hp9 : S (165 + 27 * j) ≠ -9 := fun e => by
          unfold gI at c2
          rw [e, m9T] at c2
          omega
        refine ⟨wr τ (q + 2 + (8 + 2 * (S (164 + 27 * j)).toInt.toNat)) 10 (less (τ (q + 2 + (8 + 2 * (S (164 + 27 * j)).toInt.toNat)) 10) (S (165 + 27 * j))), ?_, fun w k hw => ?_, fun k hk => ?_⟩
        · show (if (8 : Int32) ≤ nI j then _ else _) = _
          rw [if_neg (ge8 hj), bd_eq (clientAt_s j (nI_toInt (by omega)) hj), hc.1, if_neg (by rw [h1]; decide), oe_some, a1, a2]
          have hd := hdem_s (p := S (165 + 27 * j)) hW.1 hR'.1 c1 hp9
          rw [← ef] at hd
          rw [bd_eq hd, ← nI_succ]
        · rw [wr_m (by omega)]; exact i1 w k hw
        · rw [hstep]
          by_cases e : k = (S (164 + 27 * j)).toInt.toNat
          · rw [if_pos ⟨h1, by rw [e]; exact ef⟩, e, wr_h rfl rfl, i2 _ c1]
          · rw [if_neg (fun z => e (by have := z.2; rw [ef] at this; exact ((nI_eq (by omega) (by omega)).mp this).symm)), wr_m (by omega)]
            exact i2 k hk
      · have h0 : S (163 + 27 * j) = 0 := by
          rcases hW.2.2.1 j hj with h | h
          · exact h
          · exact absurd h.1 h1
        refine ⟨τ, ?_, i1, fun k hk => ?_⟩
        · show (if (8 : Int32) ≤ nI j then _ else _) = _
          rw [if_neg (ge8 hj), bd_eq (clientAt_s j (nI_toInt (by omega)) hj), hc.1, if_pos h0, oe_none, ← nI_succ]
        · rw [hstep, if_neg (fun z => h1 z.1)]
          exact i2 k hk) 8 0 FU σ1 rfl (by decide) ⟨i1, fun k hk => i2 k hk (by omega)⟩
  obtain ⟨_, σ3, e3, k1, k2⟩ := loopD (fun n (_ : Unit) x τ => L_Hub_setDemands_69 q (fun σ19 => some ((), σ19)) n x τ) (fun _ σ19 => some ((), σ19)) 8 (fun m _ τ => S10 σ τ q ∧ ∀ k, k < nS S → τ (q + 2 + (8 + 2 * k)) 10 = dmS S (nS S - min m (nS S)) k)
    (fun n _ τ _ => by
      show (if nI 0 - 1 < 0 then _ else _) = _
      rw [if_pos (by decide)])
    (fun n m _ τ hm hI => by
      obtain ⟨i1, i2⟩ := hI
      have hR' := kp i1
      by_cases hmn : m < nS S
      · have e1 : min (m + 1) (nS S) = m + 1 := by omega
        have e2 : min m (nS S) = m := by omega
        rw [e1] at i2
        rw [e2]
        have ej : dmS S (nS S - m) = dnS S m (dmS S (nS S - (m + 1))) := by
          rw [show nS S - m = (nS S - (m + 1)) + 1 by omega]
          exact dmS_dn (by omega)
        obtain ⟨hP, _⟩ := hR'.2.2.2.1 m hmn
        have hd : ∀ (hh : ¬ (S (11 + 19 * m) ≠ 4 ∧ dmS S (nS S - (m + 1)) m ≠ -9)) k, k < nS S → τ (q + 2 + (8 + 2 * k)) 10 = dmS S (nS S - m) k := fun hh k hk => by
          rw [ej]
          unfold dnS
          rw [if_neg hh]
          exact i2 k hk
        have hu : L_Hub_setDemands_69 q (fun σ19 => some ((), σ19)) (n + 1) (nI m) τ = (if τ (q + 2 + (8 + 2 * m)) 0 = 4 then L_Hub_setDemands_69 q (fun σ19 => some ((), σ19)) n (nI m - 1) τ else if τ (q + 2 + (8 + 2 * m)) 10 = -9 then L_Hub_setDemands_69 q (fun σ19 => some ((), σ19)) n (nI m - 1) τ else bd (f_Hub_demandAtMost q (τ (q + 2 + (8 + 2 * m)) 7) (τ (q + 2 + (8 + 2 * m)) 10) τ) fun _ σ16 => if σ16 (q + 2 + (8 + 2 * m)) 0 = 3 then L_Hub_setDemands_69 q (fun σ19 => some ((), σ19)) n (nI m - 1) σ16 else bd (f_Hub_demandAtMost q (σ16 (q + 2 + (8 + 2 * m)) 8) (σ16 (q + 2 + (8 + 2 * m)) 10) σ16) fun _ σ18 => L_Hub_setDemands_69 q (fun σ19 => some ((), σ19)) n (nI m - 1) σ18) := by
          rw [← pm1]
          show (if nI m < 0 then _ else _) = _
          rw [if_neg (nI_pos (by omega)), bd_eq (sensorAt_n hW.1 hR'.1 hmn), oe_some]
        rw [hu, hP.1]
        by_cases h4 : S (11 + 19 * m) = 4
        · rw [if_pos h4]
          exact ⟨(), τ, rfl, i1, hd (fun z => z.1 h4)⟩
        · rw [if_neg h4, i2 m hmn]
          by_cases h9 : dmS S (nS S - (m + 1)) m = -9
          · rw [if_pos h9]
            exact ⟨(), τ, rfl, i1, hd (fun z => z.2 h9)⟩
          · have n1 := WP_1n (hW.2.1 m hmn).1 h4
            have l1 := WP_1 (hW.2.1 m hmn).1 h4
            have hq7 := hP.2.2.1 h4
            have hdn : dmS S (nS S - m) = upS (upS (dmS S (nS S - (m + 1))) (S (12 + 19 * m)).toInt.toNat (less (dmS S (nS S - (m + 1)) (S (12 + 19 * m)).toInt.toNat) (dmS S (nS S - (m + 1)) m))) (if S (11 + 19 * m) = 3 then (S (12 + 19 * m)).toInt.toNat else (S (13 + 19 * m)).toInt.toNat) (less (upS (dmS S (nS S - (m + 1))) (S (12 + 19 * m)).toInt.toNat (less (dmS S (nS S - (m + 1)) (S (12 + 19 * m)).toInt.toNat) (dmS S (nS S - (m + 1)) m)) (if S (11 + 19 * m) = 3 then (S (12 + 19 * m)).toInt.toNat else (S (13 + 19 * m)).toInt.toNat)) (upS (dmS S (nS S - (m + 1))) (S (12 + 19 * m)).toInt.toNat (less (dmS S (nS S - (m + 1)) (S (12 + 19 * m)).toInt.toNat) (dmS S (nS S - (m + 1)) m)) m)) := by
              rw [ej]
              unfold dnS
              rw [if_pos ⟨h4, h9⟩]
            generalize dmS S (nS S - (m + 1)) = d at *
            generalize hf : (S (12 + 19 * m)).toInt.toNat = f at *
            have hfn : f < nS S := by omega
            have hd1 := hdem_s (p := d m) hW.1 hR'.1 hfn h9
            rw [if_neg h9, hq7.1, n1, bd_eq hd1, i2 f hfn]
            generalize hτ1 : wr τ (q + 2 + (8 + 2 * f)) 10 (less (d f) (d m)) = τ1
            have t1 : S10 σ τ1 q := fun w k hw => by
              rw [← hτ1, wr_m (by omega)]; exact i1 w k hw
            have t2 : ∀ k, k < nS S → τ1 (q + 2 + (8 + 2 * k)) 10 = upS d f (less (d f) (d m)) k := fun k hk => by
              rw [← hτ1]
              by_cases e : k = f
              · rw [e, wr_h rfl rfl, upS_h rfl]
              · rw [wr_m (by omega), upS_m e]; exact i2 k hk
            have hR1 := kp t1
            obtain ⟨hP1, _⟩ := hR1.2.2.2.1 m hmn
            rw [hP1.1]
            by_cases h3 : S (11 + 19 * m) = 3
            · rw [if_pos h3]
              refine ⟨(), τ1, rfl, t1, fun k hk => ?_⟩
              rw [hdn, if_pos h3, t2 k hk, upS_h (j := f) rfl, upS_m (j := m) (by omega), less_2x, upS_2]
            · have n2 := WP_2n (hW.2.1 m hmn).1 h4 h3
              have l2 := WP_2 (hW.2.1 m hmn).1 h4 h3
              rw [if_neg h3] at hdn ⊢
              generalize (S (13 + 19 * m)).toInt.toNat = g at *
              have hgn : g < nS S := by omega
              have hmf : upS d f (less (d f) (d m)) m = d m := upS_m (by omega)
              have hd2 := hdem_s (p := d m) hW.1 hR1.1 hgn h9
              rw [(hP1.2.2.1 h4).2, n2, t2 m hmn, hmf, bd_eq hd2, t2 g hgn]
              refine ⟨(), _, rfl, fun w k hw => ?_, fun k hk => ?_⟩
              · rw [wr_m (by omega)]; exact t1 w k hw
              · rw [hdn, hmf]
                by_cases e : k = g
                · rw [e, wr_h rfl rfl, upS_h rfl]
                · rw [wr_m (by omega), upS_m e]
                  exact t2 k hk
      · have e1 : min (m + 1) (nS S) = nS S := by omega
        have e2 : min m (nS S) = nS S := by omega
        rw [e1] at i2
        rw [e2]
        refine ⟨(), τ, ?_, i1, i2⟩
        show (if nI m < 0 then _ else _) = _
        rw [if_neg (nI_pos (by omega)), bd_eq (sensorAt_0 hW.1 hR'.1 (by omega) (by omega)), oe_none, pm1]) 8 FU () σ2 (Nat.le_refl _) (by decide) ⟨j1, fun k hk => by rw [show min 8 (nS S) = nS S by omega, Nat.sub_self]; exact j2 k hk⟩
  refine ⟨σ3, ?_, k1, fun k hk => ?_⟩
  · have e3' : L_Hub_setDemands_69 q (fun σ19 => some ((), σ19)) FU (7 : Int32) σ2 = some ((), σ3) := by
      have : nI 8 - 1 = (7 : Int32) := by decide
      rw [← this]
      exact e3
    rw [show (0 : Int32) = nI 0 from rfl] at *
    rw [e1, e2, e3']
  · have := k2 k hk
    rw [Nat.zero_min, Nat.sub_zero] at this
    exact this
