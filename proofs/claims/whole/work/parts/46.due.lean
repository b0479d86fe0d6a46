/-! deadlines of a tick -/
def eCl (S : Nat → Int32) (e : Nat) : Nat := (S (391 + 3 * e)).toInt.toNat
def dlE (S : Nat → Int32) (e : Nat) : Int32 := S (392 + 3 * e) + S (166 + 27 * eCl S e)
def dueL (S : Nat → Int32) : Nat → Nat → Nat → Int32
  | 0, _ => S
  | j + 1, e => if S 0 < dlE S e then dueL S j (e + 1) else wakeS (blS S (eCl S e)) 0
def dueS (S : Nat → Int32) : Nat → Int32 := dueL S (S 3).toInt.toNat 0
theorem ent_in {S : Nat → Int32} {tS tC : Nat → Int} {b : Int} (hW : WX S tS tC b) {e : Nat} (he : e < (S 3).toInt.toNat) : e < 30 ∧ S (391 + 3 * e) = nI (eCl S e) ∧ eCl S e < 8 ∧ S (163 + 27 * eCl S e) = 1 ∧ 0 ≤ gI S (392 + 3 * e) ∧ gI S (392 + 3 * e) ≤ 5000000 := by
  have h3 := hW.1.2.2.2.2.1
  have hE := hW.2.2.2 e (by unfold gI at h3 ⊢; omega)
  refine ⟨by unfold gI at h3; omega, toNI hE.1.1, ?_, hE.2.1, hE.2.2⟩
  have := hE.1
  unfold eCl
  unfold gI at this
  omega
theorem dueL_W {S : Nat → Int32} {tS tC : Nat → Int} {b : Int} (hW : WX S tS tC b) (hb : b ≤ 100000) : ∀ j e, e + j = (S 3).toInt.toNat → WX (dueL S j e) tS tC b ∧ cfE S (dueL S j e) ∧ ∀ p, p < 163 → p ≠ 3 → p ≠ 5 → p ≠ 7 → dueL S j e p = S p := by
  intro j
  induction j with
  | zero => intro e _; exact ⟨hW, cfE_rfl, fun _ _ _ _ _ => rfl⟩
  | succ j ih =>
    intro e he
    show WX (if S 0 < dlE S e then dueL S j (e + 1) else wakeS (blS S (eCl S e)) 0) tS tC b ∧ cfE S (if S 0 < dlE S e then dueL S j (e + 1) else wakeS (blS S (eCl S e)) 0) ∧ ∀ p, p < 163 → p ≠ 3 → p ≠ 5 → p ≠ 7 → (if S 0 < dlE S e then dueL S j (e + 1) else wakeS (blS S (eCl S e)) 0) p = S p
    by_cases hc : S 0 < dlE S e
    · simp only [if_pos hc]
      exact ih (e + 1) (by omega)
    · simp only [if_neg hc]
      obtain ⟨e1, e2, e3, e4, e5⟩ := ent_in hW (show e < (S 3).toInt.toNat by omega)
      have hbl := WX_bl hW e3
      have hm : ∀ p, p ≠ 171 + 27 * eCl S e → blS S (eCl S e) p = S p := fun p hp => upS_m hp
      have hcf : cfE S (blS S (eCl S e)) := fun p hp => hm p (by rcases hp with h | h | h <;> omega)
      refine ⟨wake_WX hbl hb (by decide), cfE_tr hcf (wake_cfE hbl (by decide)), fun p h1 h2 h3 h4 => ?_⟩
      rw [wakeS_m hbl (by decide) (by omega) (by omega), hm p (by omega)]
theorem due_M {τ : Mem} {tS tC : Nat → Int} {b : Int} {K : Mem → Option (Unit × Mem)} (hW : WX (τ 300) tS tC b) (hb : b ≤ 100000) : ∀ j e n, e + j = (τ 300 3).toInt.toNat → j < n → L_M_tick_125 299 K n (nI e) τ = K (wrow τ 300 (dueL (τ 300) j e)) := by
  have h3 := hW.1.2.2.2.2.1
  have e3 : τ 300 3 = nI (τ 300 3).toInt.toNat := toNI h3.1
  have hn : (τ 300 3).toInt.toNat ≤ 30 := by unfold gI at h3; omega
  intro j
  induction j with
  | zero =>
    intro e n he hn
    obtain ⟨n, rfl⟩ : ∃ z, n = z + 1 := ⟨n - 1, by omega⟩
    show (if τ 300 3 ≤ nI e then _ else _) = K (wrow τ 300 (τ 300))
    rw [wrow_id, e3, if_pos (nI_le (by omega) (by omega))]
  | succ j ih =>
    intro e n he hn
    obtain ⟨n, rfl⟩ : ∃ z, n = z + 2 := ⟨n - 2, by omega⟩
    obtain ⟨i1, i2, i3, i4, i5⟩ := ent_in hW (show e < (τ 300 3).toInt.toNat by omega)
    have b0 : ∀ g : Int32 → Mem → Option (Unit × Mem), bd (f_M_entryPart 299 (nI e) 0 τ) g = g (nI (eCl (τ 300) e)) τ := bd_eq (by
      rw [entryPart_s e 0 (nI_toInt (by omega)) z0T i1 (by decide), ← i2]; rfl)
    have b1 : ∀ g : Int32 → Mem → Option (Unit × Mem), bd (f_M_entryPart 299 (nI e) 1 τ) g = g (τ 300 (392 + 3 * e)) τ := bd_eq (by
      rw [entryPart_s e 1 (nI_toInt (by omega)) (by decide) i1 (by decide), show 391 + 3 * e + 1 = 392 + 3 * e by omega])
    have b3 := fun g : Int32 → Mem → Option (Unit × Mem) => bcli (τ := τ) (i := eCl (τ 300) e) (p := 166 + 27 * eCl (τ 300) e) 3 3 (by decide) i3 (by decide) (by omega) g
    have e8 : (163 : Int32) + 27 * nI (eCl (τ 300) e) + 8 = nI (171 + 27 * eCl (τ 300) e) := by
      rw [nI_Lm, nI_La, nI_aL]
      exact congrArg nI (by omega)
    show (if τ 300 3 ≤ nI e then _ else _) = K (wrow τ 300 (if τ 300 0 < dlE (τ 300) e then dueL (τ 300) j (e + 1) else wakeS (blS (τ 300) (eCl (τ 300) e)) 0))
    rw [if_neg (by rw [e3]; exact nI_ge (by omega) (by omega)), b0, b1, b3, ← nI_succ]
    show (if τ 300 0 < dlE (τ 300) e then _ else _) = _
    by_cases hc : τ 300 0 < dlE (τ 300) e
    · rw [if_pos hc, if_pos hc]
      exact ih (e + 1) (n + 1) (by omega) (by omega)
    · have hbl := WX_bl hW i3
      have hm9 : wr τ 300 (171 + 27 * eCl (τ 300) e) (τ 300 (171 + 27 * eCl (τ 300) e) + 1) = wrow τ 300 (blS (τ 300) (eCl (τ 300) e)) := by rw [wr_row]; rfl
      rw [if_neg hc, if_neg hc, e8, if_pos (ib_nI (by omega) (by decide)), lt_eq, if_pos (ib_nI (by omega) (by decide)), lt_eq, nI_clamp (by omega)]
      simp only [Nat.reduceAdd]
      rw [hm9]
      have hwk := wake_M (τ := wrow τ 300 (blS (τ 300) (eCl (τ 300) e))) (c := 0) (by decide) (by rw [wrow_h]; exact hbl.1.2.2.2.2.1) (by rw [wrow_h]; exact fun e he => (hbl.2.2.2 e he).1)
      rw [wrow_h, wrow_2, show nI 0 = (0 : Int32) from rfl] at hwk
      rw [bd_eq hwk]
      have ez : wakeS (blS (τ 300) (eCl (τ 300) e)) 0 3 = 0 := by
        unfold wakeS
        by_cases hz : blS (τ 300) (eCl (τ 300) e) 3 = 0
        · rw [if_pos hz]; exact hz
        · rw [if_neg hz, upS_m (by omega), upS_m (by omega), upS_h rfl]
      show (if wrow τ 300 (wakeS (blS (τ 300) (eCl (τ 300) e)) 0) 300 3 ≤ nI (e + 1) then _ else _) = _
      rw [wrow_h, ez, if_pos (show (0 : Int32) ≤ nI (e + 1) from nI_le (a := 0) (by omega) (by omega))]
theorem due_X {σ : Mem} {q : Nat} {S : Nat → Int32} {tS tC : Nat → Int} {b : Int} (hW : WX S tS tC b) (hb : b ≤ 100000) (hR : RH σ q S) : ∀ j e n, e + j = (S 3).toInt.toNat → j < n → ∃ σ', L_Hub_wakeIfDue_2 q (fun σ13 => some ((), σ13)) n (nI e) σ = some ((), σ') ∧ RH σ' q (dueL S j e) ∧ σ' q 5 = σ q 5 ∧ ∀ w, (w < q ∨ q + 42 ≤ w ∨ (q + 10 ≤ w ∧ w < q + 26)) → σ' w = σ w := by
  have h3 := hW.1.2.2.2.2.1
  have e3 : S 3 = nI (S 3).toInt.toNat := toNI h3.1
  have hn : (S 3).toInt.toNat ≤ 30 := by unfold gI at h3; omega
  have hRE := hR.2.2.1
  intro j
  induction j with
  | zero =>
    intro e n he hn
    obtain ⟨n, rfl⟩ : ∃ z, n = z + 1 := ⟨n - 1, by omega⟩
    refine ⟨σ, ?_, hR, rfl, fun _ _ => rfl⟩
    show (if σ (q + 8) 0 ≤ nI e then _ else _) = _
    rw [hRE.1, e3, if_pos (nI_le (by omega) (by omega))]
  | succ j ih =>
    intro e n he hn
    obtain ⟨n, rfl⟩ : ∃ z, n = z + 1 := ⟨n - 1, by omega⟩
    obtain ⟨i1, i2, i3, i4, i5⟩ := ent_in hW (show e < (S 3).toInt.toNat by omega)
    have sz : ¬ (σ (q + 8) 0).toInt ≤ (e : Int) := by rw [hRE.1]; omega
    have pe : ∀ p : Nat, p < 3 → σ (q + 8 + 1) (3 * e + p) = S (391 + 3 * e + p) := fun p hp => hRE.2 e p (by unfold gI at h3 ⊢; omega) hp
    have p0 : f_Sto_part (q + 8) (nI e) 0 σ = some (nI (eCl S e), σ) := by
      rw [part_s e 0 (nI_toInt (by omega)) z0T i1 (by decide), if_neg sz, pe 0 (by decide), ← i2]; rfl
    have p1 : f_Sto_part (q + 8) (nI e) 1 σ = some (S (392 + 3 * e), σ) := by
      rw [part_s e 1 (nI_toInt (by omega)) (by decide) i1 (by decide), if_neg sz, pe 1 (by decide), show 391 + 3 * e + 1 = 392 + 3 * e by omega]
    have hc0 := (hR.2.2.2.2 _ i3).1
    have hca : f_Hub_clientAt q (nI (eCl S e)) σ = some (some (q + 3 + (23 + 2 * eCl S e)), σ) := by
      rw [clientAt_s (eCl S e) (nI_toInt (by omega)) i3, hc0.1, i4, if_neg (by decide)]
    have a3 := (hc0.2 i4).1.2.2.1
    have hdl : f_Hub_deadlineOf q (nI e) σ = some (dlE S e, σ) := by
      unfold f_Hub_deadlineOf
      rw [bd_eq p0, bd_eq hca, oe_some, lt_eq, bd_eq p1, a3]
      rfl
    show ∃ σ', (if σ (q + 8) 0 ≤ nI e then _ else _) = _ ∧ RH σ' q (if S 0 < dlE S e then dueL S j (e + 1) else wakeS (blS S (eCl S e)) 0) ∧ _
    rw [if_neg (by rw [hRE.1, e3]; exact nI_ge (by omega) (by omega)), bd_eq hdl, hR.1.1, ← nI_succ]
    by_cases hc : S 0 < dlE S e
    · rw [if_pos hc, if_pos hc]
      exact ih (e + 1) n (by omega) (by omega)
    · have hbl := WX_bl hW i3
      obtain ⟨σ1, e1, k1, k2, k3⟩ := wake_X (c := 0) (by decide) hbl hb (bl_RH hW i3 i4 hR)
      rw [if_neg hc, if_neg hc, bd_eq p0, bd_eq hca, oe_some, lt_eq, show (0 : Int32) = nI 0 from rfl, bd_eq e1]
      refine ⟨σ1, rfl, k1, ?_, fun w hw => ?_⟩
      · rw [k3, wr_m (by omega)]
      · rw [k2 w (by omega), wr_other (by omega)]
/-! a tick -/
def now1 (S : Nat → Int32) : Nat → Int32 := upS S 0 (S 0 + 1)
def tkS (P : Nat → Int32) (w : (Nat → Int32) × (Nat → Int32)) : (Nat → Int32) × (Nat → Int32) := (dueS (stN P (senN P (now1 w.1, w.2) (nS w.1)).2 (senN P (now1 w.1, w.2) (nS w.1)).1 8), (senN P (now1 w.1, w.2) (nS w.1)).2)
/-- what the class notes in a tick of the most entries -/
def moS (P : Nat → Int32) (w : (Nat → Int32) × (Nat → Int32)) (M : Int32) : Int32 := moN P (senN P (now1 w.1, w.2) (nS w.1)).2 (senN P (now1 w.1, w.2) (nS w.1)).1 M 8
theorem now1_W {S : Nat → Int32} (hW : WF S) (hn : gI S 0 ≤ 10498) : WX (now1 S) (fun _ => gI S 0) (fun _ => gI S 0) (8 * gI S 0) ∧ gI (now1 S) 0 = gI S 0 + 1 ∧ cfE S (now1 S) ∧ nS (now1 S) = nS S := by
  have h8 := nS_le hW.1
  have hm : ∀ p, p ≠ 0 → now1 S p = S p := fun p hp => upS_m hp
  have gm : ∀ p, p ≠ 0 → gI (now1 S) p = gI S p := fun p hp => congrArg Int32.toInt (hm p hp)
  have hcf : cfE S (now1 S) := fun p hp => hm p (by rcases hp with h | h | h <;> omega)
  have g0 : gI (now1 S) 0 = gI S 0 + 1 := by
    show (upS S 0 (S 0 + 1) 0).toInt = _
    rw [upS_h rfl]
    unfold gI at hn
    exact plus1 hn (by decide)
  refine ⟨⟨?_, fun i hi => ?_, fun k hk => ?_, fun e he => ?_⟩, g0, hcf, cfE_n hcf⟩
  · have hG := hW.1
    unfold WG at hG ⊢
    rw [g0, gm 6 (by omega), gm 1 (by omega), gm 2 (by omega), gm 3 (by omega), gm 4 (by omega), gm 7 (by omega), gm 8 (by omega), gm 9 (by omega), gm 10 (by omega)]
    omega
  · rw [cfE_n hcf] at hi
    obtain ⟨h1, h2⟩ := hW.2.1 i hi
    refine ⟨WP_cong (fun p _ _ => hm p (by omega)) h1, ?_⟩
    unfold WR at h2 ⊢
    rw [g0, gm (18 + 19 * i) (by omega), gm (19 + 19 * i) (by omega), gm (21 + 19 * i) (by omega), hm (11 + 19 * i) (by omega), hm (20 + 19 * i) (by omega), gm (20 + 19 * i) (by omega)]
    refine ⟨h2.1, ⟨h2.2.1.1, by have := h2.2.1.2.1; omega, fun h4 => by have := h2.2.1.2.2 h4; omega⟩, h2.2.2.1, h2.2.2.2.1, fun r hr hg => ?_, h2.2.2.2.2.2⟩
    rw [gm (22 + 19 * i + r) (by omega)]
    exact h2.2.2.2.2.1 r hr hg
  · exact WC_cong hk hcf (CW_of hW) (WX_cl hW k hk) (hm 3 (by omega)) (fun p _ _ => hm p (by omega)) (hW.2.2.1 k hk)
  · rw [gm 3 (by omega)] at he
    have hE := hW.2.2.2 e he
    unfold WE gI at hE ⊢
    rw [hm (391 + 3 * e) (by omega), hm (392 + 3 * e) (by omega), hm (163 + 27 * (S (391 + 3 * e)).toInt.toNat) (by omega)]
    exact hE
theorem now1_RH {σ : Mem} {q : Nat} {S : Nat → Int32} (hW : WF S) (hR : RH σ q S) : RH (wr σ q 0 (σ q 0 + 1)) q (now1 S) := by
  have h8 := nS_le hW.1
  have hm : ∀ p, p ≠ 0 → now1 S p = S p := fun p hp => upS_m hp
  have hcf : cfE S (now1 S) := fun p hp => hm p (by rcases hp with h | h | h <;> omega)
  have ho : ∀ w, w ≠ q → wr σ q 0 (σ q 0 + 1) w = σ w := fun w hw => wr_other hw
  have hRS := (RH_iff.mp hR).1
  obtain ⟨hRG, hRO, hRE, hRRS, hRCS⟩ := hR
  refine RH_iff.mpr ⟨RS_keep hcf (CW_of hW) ⟨fun i k hi hk => by rw [ho _ (by omega)], fun i k hi hk => by rw [ho _ (by omega)]⟩ (WX_cl hW) hRS, ?_, ?_, ?_, ?_, ?_⟩
  · unfold RG at hRG ⊢
    rw [ho (q + 1) (by omega), hm 6 (by omega), hm 5 (by omega), hm 4 (by omega), hm 1 (by omega), show now1 S 0 = S 0 + 1 from upS_h rfl, wr_h rfl rfl, wr_m (by omega), wr_m (by omega), wr_m (by omega), wr_m (by omega), hRG.1]
    refine ⟨rfl, hRG.2.1, hRG.2.2.1, hRG.2.2.2.1, hRG.2.2.2.2.1, fun c hc => ?_⟩
    rw [hm (7 + c) (by omega)]
    exact hRG.2.2.2.2.2 c hc
  · unfold RO gI at hRO ⊢
    rw [ho (q + 4) (by omega), ho (q + 4 + 1) (by omega), ho (q + 4 + 2) (by omega), ho (q + 4 + 3) (by omega), hm 2 (by omega)]
    refine ⟨hRO.1, fun o ho2 => ?_⟩
    rw [hm (379 + 3 * o) (by omega), hm (380 + 3 * o) (by omega), hm (381 + 3 * o) (by omega)]
    exact hRO.2 o ho2
  · unfold RE gI at hRE ⊢
    rw [ho (q + 8) (by omega), ho (q + 8 + 1) (by omega), hm 3 (by omega)]
    refine ⟨hRE.1, fun e p he hp => ?_⟩
    rw [hm (391 + 3 * e + p) (by omega)]
    exact hRE.2 e p he hp
  · intro i hi
    rw [cfE_n hcf] at hi
    rw [ho _ (by omega), ho _ (by omega)]
    exact RR_cong (fun p _ _ => hm p (by omega)) (hRRS i hi).2.1
  · intro k hk
    rw [ho _ (by omega), ho _ (by omega)]
    exact RC_cong (fun p _ _ => hm p (by omega)) (hRCS k hk).1
