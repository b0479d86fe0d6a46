/-! a wake of the class's hub -/
theorem fmw {σ σ' : Mem} {w : Nat} (h : σ' w = σ w) (k : Nat) : σ' w k = σ w k := congrFun h k
theorem stK_of {σ σ' : Mem} {q : Nat} (h1 : ∀ w, q + 10 ≤ w → w < q + 26 → σ' w = σ w) (h2 : ∀ j k, j < 8 → k < 5 → σ' (q + 3 + (23 + 2 * j)) k = σ (q + 3 + (23 + 2 * j)) k) : stK σ σ' q := ⟨fun i k hi _ => by rw [h1 _ (by omega) (by omega)], h2⟩
theorem wakeX_lp {σ : Mem} {q : Nat} {S : Nat → Int32} {tS tC : Nat → Int} {b : Int} {y1 : Int32} {k : Mem → Option (Int32 × Mem)} (hW : WX S tS tC b) (hb : b ≤ 100000) (hR : RH σ q S) : ∃ σ', L_Hub_wake_25 q y1 (S 3) k FU 0 σ = k σ' ∧ (∀ w, (w < q + 26 ∨ q + 42 ≤ w) → σ' w = σ w) ∧ (∀ j, j < 8 → RC (σ' (q + 3 + (23 + 2 * j))) (σ' (q + 3 + (23 + 2 * j) + 1)) (dlvN S (S 3).toInt.toNat) j) ∧ ∀ j k, j < 8 → k < 5 → σ' (q + 3 + (23 + 2 * j)) k = σ (q + 3 + (23 + 2 * j)) k := by
  have h3 := hW.1.2.2.2.2.1
  have e3 : S 3 = nI (S 3).toInt.toNat := toNI h3.1
  obtain ⟨σ', e, hI⟩ := loopR (L_Hub_wake_25 q y1 (S 3) k) k (S 3).toInt.toNat (fun e τ => (∀ w, (w < q + 26 ∨ q + 42 ≤ w) → τ w = σ w) ∧ (∀ j, j < 8 → RC (τ (q + 3 + (23 + 2 * j))) (τ (q + 3 + (23 + 2 * j) + 1)) (dlvN S e) j) ∧ ∀ j k, j < 8 → k < 5 → τ (q + 3 + (23 + 2 * j)) k = σ (q + 3 + (23 + 2 * j)) k)
    (fun n τ hI => by
      show (if S 3 ≤ nI (S 3).toInt.toNat then k τ else _) = _
      rw [if_pos (by rw [← e3]; rw [Int32.le_iff_toInt_le]; omega)])
    (fun n e τ he hI => by
      obtain ⟨i1, i2, i3⟩ := hI
      have hE := hW.2.2.2 e (by unfold gI at h3 ⊢; omega)
      obtain ⟨hc, hp, hs⟩ := hE
      have hcl : (S (391 + 3 * e)).toInt = ((S (391 + 3 * e)).toInt.toNat : Int) := by unfold gI at hc; omega
      have hcn : (S (391 + 3 * e)).toInt.toNat < 8 := by unfold gI at hc; omega
      generalize hcd : (S (391 + 3 * e)).toInt.toNat = c at *
      have z2 : (2 : Int32).toInt = 2 := by decide
      have z1 : (1 : Int32).toInt = 1 := by decide
      have he30 : e < 30 := by unfold gI at h3; omega
      have t8 : ∀ x, τ (q + 8) x = σ (q + 8) x := fun x => by rw [i1 _ (Or.inl (by omega))]
      have t9 : ∀ x, τ (q + 8 + 1) x = σ (q + 8 + 1) x := fun x => by rw [i1 _ (Or.inl (by omega))]
      have hRE := hR.2.2.1
      have sz : ¬ (τ (q + 8) 0).toInt ≤ (e : Int) := by rw [t8, hRE.1]; unfold gI at h3; omega
      have pe : ∀ p : Nat, p < 3 → τ (q + 8 + 1) (3 * e + p) = S (391 + 3 * e + p) := fun p hp3 => by rw [t9]; exact hRE.2 e p (by unfold gI at h3 ⊢; omega) hp3
      have b0 : ∀ g : Int32 → Mem → Option (Int32 × Mem), bd (f_Sto_part (q + 8) (nI e) 0 τ) g = g (S (391 + 3 * e)) τ := bd_eq (by
        rw [part_s e 0 (nI_toInt (by omega)) z0T he30 (by decide), if_neg sz, pe 0 (by decide)]; rfl)
      have b1 : ∀ g : Int32 → Mem → Option (Int32 × Mem), bd (f_Sto_part (q + 8) (nI e) 1 τ) g = g (S (391 + 3 * e + 1)) τ := bd_eq (by
        rw [part_s e 1 (nI_toInt (by omega)) z1 he30 (by decide), if_neg sz, pe 1 (by decide)])
      have b2 : ∀ g : Int32 → Mem → Option (Int32 × Mem), bd (f_Sto_part (q + 8) (nI e) 2 τ) g = g (S (391 + 3 * e + 2)) τ := bd_eq (by
        rw [part_s e 2 (nI_toInt (by omega)) z2 he30 (by decide), if_neg sz, pe 2 (by decide)])
      have pres : τ (q + 3 + (23 + 2 * c)) 0 = 1 := by
        rw [(i2 c hcn).1, dlvN_cf (Or.inr ⟨c, hcn, by omega, by omega⟩) e (fun x hx => (hW.2.2.2 x (by unfold gI at h3 ⊢; omega)).1)]
        exact hp
      have b3 : ∀ g : Option Nat → Mem → Option (Int32 × Mem), bd (f_Hub_clientAt q (S (391 + 3 * e)) τ) g = g (some (q + 3 + (23 + 2 * c))) τ := bd_eq (by
        rw [clientAt_s c hcl hcn, pres, if_neg (by decide)])
      have hA := dlvN_WA hW hb hcn e (by unfold gI at h3 ⊢; omega)
      have p1 : dlvN S e (163 + 27 * c) = 1 := by
        rw [dlvN_cf (Or.inr ⟨c, hcn, by omega, by omega⟩) e (fun x hx => (hW.2.2.2 x (by unfold gI at h3 ⊢; omega)).1)]
        exact hp
      have hA2 := hA p1
      have hDb : gI S (168 + 27 * c) ≤ 100000 := by
        rcases hW.2.2.1 c hcn with h2 | h2
        · rw [h2] at hp
          exact absurd hp (by decide)
        · have := h2.2.2.2.2.2.1
          omega
      have e0 : dlvN S e 0 = S 0 := dlvN_m (Or.inl (by omega)) e (fun x hx => (hW.2.2.2 x (by unfold gI at h3 ⊢; omega)).1.2)
      have now : τ q 0 = S 0 := by rw [i1 _ (Or.inl (by omega))]; exact hR.1.1
      have hrc := i2 c hcn
      have cD : τ (q + 3 + (23 + 2 * c)) 6 = nI (dlvN S e (168 + 27 * c)).toInt.toNat := by
        rw [(hrc.2 p1).1.2.2.2.2.1]
        exact toNI hA2.1.1
      have hst : 0 ≤ (S (391 + 3 * e + 1)).toInt ∧ (S (391 + 3 * e + 1)).toInt ≤ 5000000 := by
        unfold gI at hs
        rw [show 391 + 3 * e + 1 = 392 + 3 * e by omega]
        exact hs
      have hRC := rcv_RC (st := S (391 + 3 * e + 1)) (v := S (391 + 3 * e + 2)) p1 ⟨hA2.1.1, by omega⟩ hA2.2 (by unfold gI; rw [e0]; exact hW.1.1) hst hrc
      rw [e0] at hRC
      have b4 := rcv_X (st := S (391 + 3 * e + 1)) (v := S (391 + 3 * e + 2)) (now := S 0) cD (by have := hA2.1; unfold gI at this hDb; omega)
      refine ⟨wrow (wrow τ (q + 3 + (23 + 2 * c) + 1) (rcR (τ (q + 3 + (23 + 2 * c) + 1)) (dlvN S e (168 + 27 * c)).toInt.toNat (S (391 + 3 * e + 1)) (S (391 + 3 * e + 2)) (S 0))) (q + 3 + (23 + 2 * c)) (rcA (τ (q + 3 + (23 + 2 * c))) (dlvN S e (168 + 27 * c)).toInt.toNat (S (391 + 3 * e + 1)) (S (391 + 3 * e + 2)) (S 0)), ?_, ?_, ?_, ?_⟩
      · show (if S 3 ≤ nI e then k τ else _) = _
        rw [if_neg (by rw [Int32.le_iff_toInt_le, nI_toInt (by omega)]; omega), b0, b3, oe_some, b1, b2, now, bd_eq b4, ← nI_succ]
      · intro w hw
        rw [wrow_m (by omega), wrow_m (by omega)]
        exact i1 w hw
      · intro j hj
        by_cases hjc : j = c
        · subst hjc
          rw [wrow_h, wrow_m (by omega), wrow_h]
          show RC _ _ (dlvS (dlvN S e) (S (391 + 3 * e)).toInt.toNat (S (391 + 3 * e + 1)) (S (391 + 3 * e + 2))) j
          rw [hcd]
          exact hRC
        · rw [wrow_m (by omega), wrow_m (by omega), wrow_m (by omega), wrow_m (by omega)]
          refine RC_cong (fun p h1 h2 => ?_) (i2 j hj)
          show dlvS (dlvN S e) (S (391 + 3 * e)).toInt.toNat _ _ p = _
          rw [hcd, dlvS_m (by omega)]
      · intro j x hj hx
        by_cases hjc : j = c
        · subst hjc
          rw [wrow_h]
          unfold rcA
          rw [upS_m (by omega), upS_m (by omega), upS_m (by omega)]
          exact i3 j x hj hx
        · rw [wrow_m (by omega), wrow_m (by omega)]
          exact i3 j x hj hx) (S 3).toInt.toNat 0 FU σ (by omega) (by unfold gI at h3; show _ < 4096; omega) ⟨fun _ _ => rfl, fun j hj => (hR.2.2.2.2 j hj).1, fun _ _ _ _ => rfl⟩
  exact ⟨σ', e, hI⟩
theorem wake_X {σ : Mem} {q : Nat} {S : Nat → Int32} {tS tC : Nat → Int} {b : Int} {c : Nat} (hc : c < 4) (hW : WX S tS tC b) (hb : b ≤ 100000) (hR : RH σ q S) : ∃ σ', f_Hub_wake q (nI c) σ = some (S 3, σ') ∧ RH σ' q (wakeS S c) ∧ (∀ w, (w < q ∨ q + 42 ≤ w ∨ (q + 10 ≤ w ∧ w < q + 26)) → σ' w = σ w) ∧ σ' q 5 = σ q 5 := by
  have h3 := hW.1.2.2.2.2.1
  have es : σ (q + 8) 0 = S 3 := hR.2.2.1.1
  unfold f_Hub_wake
  simp only [lt_eq]
  rw [es]
  by_cases h0 : S 3 = 0
  · rw [if_pos h0]
    refine ⟨σ, by rw [h0], ?_, fun _ _ => rfl, rfl⟩
    unfold wakeS
    rw [if_pos h0]
    exact hR
  · rw [if_neg h0, isW, bd_some]
    rw [if_neg (by rw [if_pos (inR.mpr ⟨by rw [z0T, nI_toInt (by omega)]; omega, by rw [nI_toInt (by omega)]; show (c : Int) ≤ 3; omega⟩)]; decide)]
    obtain ⟨σ1, e1, f1, f2, f3⟩ := wakeX_lp (y1 := nI c) (k := fun σ15 =>
        if ib (nI c) 4 then
          if ib (nI c) 4 then
            some (S 3, wr (wr (wr σ15 (q + 8) 0 (0 : Int32)) q 2 (((wr σ15 (q + 8) 0 (0 : Int32)) q 2) + (20 : Int32))) (q + 1) (nI c).toNatClampNeg (((wr (wr σ15 (q + 8) 0 (0 : Int32)) q 2 (((wr σ15 (q + 8) 0 (0 : Int32)) q 2) + (20 : Int32))) (q + 1) (nI c).toNatClampNeg) + (1 : Int32)))
          else none
        else none) hW hb hR
    refine ⟨_, e1.trans (by rw [if_pos (ib_nI hc (by decide)), if_pos (ib_nI hc (by decide))]), ?_⟩
    rw [nI_clamp (by omega)]
    have hcf := wake_cfE hW hc
    have hcl := fun e (he : e < (S 3).toInt.toNat) => hW.2.2.2 e (by unfold gI at h3 ⊢; omega)
    have hm : ∀ p, p ≠ 3 ∧ p ≠ 5 ∧ p ≠ 7 + c → (p < 168 ∨ 379 ≤ p) → wakeS S c p = S p := fun p h1 h2 => wakeS_m hW hc h1 h2
    have e3 : wakeS S c 3 = 0 := by
      unfold wakeS
      rw [if_neg h0, upS_m (by omega), upS_m (by omega), upS_h rfl]
    have e5 : wakeS S c 5 = S 5 + 20 := by
      unfold wakeS
      rw [if_neg h0, upS_m (by omega), upS_h rfl, dlvN_m (Or.inl (by omega)) _ (fun e he => (hcl e he).1.2)]
    have e7 : wakeS S c (7 + c) = S (7 + c) + 1 := by
      unfold wakeS
      rw [if_neg h0, upS_h rfl, dlvN_m (j := 7 + c) (Or.inl (by omega)) _ (fun e he => (hcl e he).1.2)]
    have eT : ∀ j, j < 8 → ∀ p, 163 + 27 * j ≤ p → p < 190 + 27 * j → wakeS S c p = dlvN S (S 3).toInt.toNat p := fun j hj p h1 h2 => by
      unfold wakeS
      rw [if_neg h0, upS_m (by omega), upS_m (by omega), upS_m (by omega)]
    have fr : ∀ w, w ≠ q + 8 → w ≠ q → w ≠ q + 1 → (w < q + 26 ∨ q + 42 ≤ w) → wr (wr (wr σ1 (q + 8) 0 0) q 2 (wr σ1 (q + 8) 0 0 q 2 + 20)) (q + 1) c (wr (wr σ1 (q + 8) 0 0) q 2 (wr σ1 (q + 8) 0 0 q 2 + 20) (q + 1) c + 1) w = σ w := fun w h1 h2 h3 h4 => by
      rw [wr_other h3, wr_other h2, wr_other h1, f1 w h4]
    have frC : ∀ w, q + 26 ≤ w → wr (wr (wr σ1 (q + 8) 0 0) q 2 (wr σ1 (q + 8) 0 0 q 2 + 20)) (q + 1) c (wr (wr σ1 (q + 8) 0 0) q 2 (wr σ1 (q + 8) 0 0 q 2 + 20) (q + 1) c + 1) w = σ1 w := fun w h1 => by
      rw [wr_other (by omega), wr_other (by omega), wr_other (by omega)]
    obtain ⟨⟨g0, g1, g2, g3, g4, g5⟩, hRO, hRE, hRRS, hRCS⟩ := hR
    have hS := (RH_iff.mp ⟨⟨g0, g1, g2, g3, g4, g5⟩, hRO, hRE, hRRS, hRCS⟩).1
    refine ⟨RH_iff.mpr ⟨RS_keep hcf (CW_of hW) (stK_of (fun w h1 h2 => fr w (by omega) (by omega) (by omega) (by omega)) (fun j k hj hk => by rw [frC _ (by omega)]; exact f3 j k hj hk)) (WX_cl hW) hS, ⟨?_, ?_, ?_, ?_, ?_, ?_⟩, ?_, ?_, ?_, ?_⟩, ?_, ?_⟩
    · rw [wr_m (by omega), wr_m (by omega), wr_m (by omega), f1 _ (by omega), hm 0 (by omega) (by omega)]; exact g0
    · rw [wr_m (by omega), wr_m (by omega), wr_m (by omega), f1 _ (by omega), hm 6 (by omega) (by omega)]; exact g1
    · rw [wr_m (by omega), wr_h rfl rfl, wr_m (by omega), f1 _ (by omega), e5, ← g2]
    · rw [wr_m (by omega), wr_m (by omega), wr_m (by omega), f1 _ (by omega), hm 4 (by omega) (by omega)]; exact g3
    · rw [wr_m (by omega), wr_m (by omega), wr_m (by omega), f1 _ (by omega), hm 1 (by omega) (by omega)]; exact g4
    · intro x hx
      by_cases hxc : x = c
      · subst hxc
        rw [wr_h rfl rfl, wr_m (by omega), wr_m (by omega), f1 _ (by omega), e7, g5 x hx]
      · rw [wr_m (by omega), wr_m (by omega), wr_m (by omega), f1 _ (by omega), hm (7 + x) (by omega) (by omega)]; exact g5 x hx
    · unfold RO at hRO ⊢
      unfold gI at hRO ⊢
      rw [fr (q + 4) (by omega) (by omega) (by omega) (by omega), fr (q + 4 + 1) (by omega) (by omega) (by omega) (by omega), fr (q + 4 + 2) (by omega) (by omega) (by omega) (by omega), fr (q + 4 + 3) (by omega) (by omega) (by omega) (by omega), hm 2 (by omega) (by omega)]
      refine ⟨hRO.1, fun o ho => ?_⟩
      rw [hm (379 + 3 * o) (by omega) (by omega), hm (380 + 3 * o) (by omega) (by omega), hm (381 + 3 * o) (by omega) (by omega)]
      exact hRO.2 o ho
    · refine ⟨by rw [wr_m (by omega), wr_m (by omega), wr_h rfl rfl, e3], fun e p he _ => ?_⟩
      unfold gI at he
      rw [e3, z0T] at he
      omega
    · intro i hi
      rw [cfE_n hcf] at hi
      have h8 := nS_le hW.1
      rw [fr _ (by omega) (by omega) (by omega) (by omega), fr _ (by omega) (by omega) (by omega) (by omega)]
      exact RR_cong (fun p _ _ => hm p (by omega) (by omega)) (hRRS i hi).2.1
    · intro j hj
      rw [frC _ (by omega), frC _ (by omega)]
      exact RC_cong (eT j hj) (f2 j hj)
    · intro w hw
      by_cases hw2 : w < q + 26
      · exact fr w (by omega) (by omega) (by omega) (by omega)
      · exact fr w (by omega) (by omega) (by omega) (by omega)
    · rw [wr_m (by omega), wr_m (by omega), wr_m (by omega), f1 _ (by omega)]
