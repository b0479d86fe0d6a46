/-! rows that agree on their 481 places; the history -/
theorem cfP_lt {p : Nat} (h : cfP p) : p < 481 := by rcases h with h | h | h <;> omega
theorem WX_congS {S S' : Nat → Int32} {tS tC : Nat → Int} {b : Int} (h : ∀ k, k < 481 → S' k = S k) (hW : WX S tS tC b) : WX S' tS tC b := by
  have h8 := nS_le hW.1
  have h3 := hW.1.2.2.2.2.1
  have hcf : cfE S S' := fun p hp => h p (cfP_lt hp)
  have gm : ∀ p, p < 481 → gI S' p = gI S p := fun p hp => congrArg Int32.toInt (h p hp)
  refine ⟨?_, fun i hi => ?_, fun k hk => ?_, fun e he => ?_⟩
  · unfold WG
    rw [gm 0 (by omega), gm 6 (by omega), gm 1 (by omega), gm 2 (by omega), gm 3 (by omega), gm 4 (by omega), gm 7 (by omega), gm 8 (by omega), gm 9 (by omega), gm 10 (by omega)]
    exact hW.1
  · rw [cfE_n hcf] at hi
    obtain ⟨h1, h2⟩ := hW.2.1 i hi
    exact ⟨WP_cong (fun p _ _ => h p (by omega)) h1, WR_cong (h 0 (by omega)) (fun p _ _ => h p (by omega)) h2⟩
  · exact WC_cong hk hcf (CW_of hW) (WX_cl hW k hk) (h 3 (by omega)) (fun p _ _ => h p (by omega)) (hW.2.2.1 k hk)
  · rw [gm 3 (by omega)] at he
    have hE := hW.2.2.2 e he
    unfold WE gI at hE ⊢
    rw [h (391 + 3 * e) (by omega), h (392 + 3 * e) (by omega), h (163 + 27 * (S (391 + 3 * e)).toInt.toNat) (by omega)]
    exact hE
theorem WF_congS {S S' : Nat → Int32} (h : ∀ k, k < 481 → S' k = S k) (hW : WF S) : WF S' := by
  unfold WF
  rw [show gI S' 0 = gI S 0 from congrArg Int32.toInt (h 0 (by omega))]
  exact WX_congS h hW
theorem RH_congS {σ : Mem} {q : Nat} {S S' : Nat → Int32} {tS tC : Nat → Int} {b : Int} (h : ∀ k, k < 481 → S' k = S k) (hW : WX S tS tC b) (hR : RH σ q S) : RH σ q S' := by
  have h8 := nS_le hW.1
  have h2 := hW.1.2.2.2.1
  have h3 := hW.1.2.2.2.2.1
  have hcf : cfE S S' := fun p hp => h p (cfP_lt hp)
  have gm : ∀ p, p < 481 → gI S' p = gI S p := fun p hp => congrArg Int32.toInt (h p hp)
  have hRS := (RH_iff.mp hR).1
  obtain ⟨hRG, hRO, hRE, hRRS, hRCS⟩ := hR
  refine RH_iff.mpr ⟨RS_keep hcf (CW_of hW) ⟨fun _ _ _ _ => rfl, fun _ _ _ _ => rfl⟩ (WX_cl hW) hRS, ?_, ?_, ?_, ?_, ?_⟩
  · unfold RG at hRG ⊢
    rw [h 0 (by omega), h 6 (by omega), h 5 (by omega), h 4 (by omega), h 1 (by omega)]
    refine ⟨hRG.1, hRG.2.1, hRG.2.2.1, hRG.2.2.2.1, hRG.2.2.2.2.1, fun c hc => ?_⟩
    rw [h (7 + c) (by omega)]
    exact hRG.2.2.2.2.2 c hc
  · unfold RO at hRO ⊢
    rw [gm 2 (by omega), h 2 (by omega)]
    refine ⟨hRO.1, fun o ho => ?_⟩
    rw [h (379 + 3 * o) (by omega), h (380 + 3 * o) (by omega), h (381 + 3 * o) (by omega)]
    exact hRO.2 o ho
  · unfold RE at hRE ⊢
    rw [gm 3 (by omega), h 3 (by omega)]
    refine ⟨hRE.1, fun e p he hp => ?_⟩
    rw [h (391 + 3 * e + p) (by omega)]
    exact hRE.2 e p he hp
  · intro i hi
    rw [cfE_n hcf] at hi
    exact RR_cong (fun p _ _ => h p (by omega)) (hRRS i hi).2.1
  · intro j hj
    exact RC_cong (fun p _ _ => h p (by omega)) (hRCS j hj).1
/-- the reference keeps its row -/
theorem keep_a {τ : Mem} {K : Mem → Option (Unit × Mem)} : L_M_keep_10 299 K FU 0 τ = K (wrow τ 301 (fun p => if p < 1924 then τ 301 (p + 481) else τ 301 p)) := by
  obtain ⟨σ', e, rfl⟩ := loopR (L_M_keep_10 299 K) K 1924 (fun i σ => σ = wrow τ 301 (fun p => if p < i then τ 301 (p + 481) else τ 301 p))
    (fun n σ _ => by show (if (1924 : Int32) ≤ nI 1924 then _ else _) = _; rw [if_pos (by decide)])
    (fun n i σ hi hI => by
      subst hI
      refine ⟨_, ?_, rfl⟩
      show (if (1924 : Int32) ≤ nI i then _ else _) = _
      rw [if_neg (show ¬ (1924 : Int32) ≤ nI i from nI_ge hi (by decide)), show nI i + 481 = nI (i + 481) from nI_add i 481, if_pos (ib_nI (by omega) (by decide)), if_pos (ib_nI (by omega) (by decide)), lt_eq, nI_clamp (by omega), nI_clamp (by omega), ← nI_succ]
      simp only [Nat.reduceAdd]
      rw [wr_row, wrow_h, wrow_2, if_neg (by omega)]
      refine congrArg (fun f => L_M_keep_10 299 K n (nI (i + 1)) (wrow τ 301 f)) ?_
      funext p
      by_cases e : p = i
      · rw [upS_h e, if_pos (by omega), e]
      · rw [upS_m e]
        by_cases h : p < i
        · rw [if_pos h, if_pos (by omega)]
        · rw [if_neg h, if_neg (by omega)]) 1924 0 FU τ rfl (by decide) (by
      show τ = wrow τ 301 (fun p => if p < 0 then τ 301 (p + 481) else τ 301 p)
      have : (fun p => if p < 0 then τ 301 (p + 481) else τ 301 p) = τ 301 := by
        funext p
        rw [if_neg (by omega)]
      rw [this, wrow_id])
  exact e
theorem keep_b {τ : Mem} {K : Mem → Option (Unit × Mem)} {N : Nat} (hN : N ≤ 4) (h3 : τ 299 3 = nI N) : L_M_keep_51 299 K FU 0 τ = K (wrow τ 301 (fun p => if 481 * N ≤ p ∧ p < 481 * N + 481 then τ 300 (p - 481 * N) else τ 301 p)) := by
  obtain ⟨σ', e, rfl⟩ := loopR (L_M_keep_51 299 K) K 481 (fun i σ => σ = wrow τ 301 (fun p => if 481 * N ≤ p ∧ p < 481 * N + i then τ 300 (p - 481 * N) else τ 301 p))
    (fun n σ _ => by show (if (481 : Int32) ≤ nI 481 then _ else _) = _; rw [if_pos (by decide)])
    (fun n i σ hi hI => by
      subst hI
      refine ⟨_, ?_, rfl⟩
      have e9 : (481 : Int32) * nI N + nI i = nI (481 * N + i) := by
        rw [nI_Lm, nI_add]
      show (if (481 : Int32) ≤ nI i then _ else _) = _
      rw [if_neg (show ¬ (481 : Int32) ≤ nI i from nI_ge hi (by decide)), if_pos (ib_nI (by omega) (by decide)), wrow_m (v := 301) (b := 299) (by decide), h3, e9, if_pos (ib_nI (by omega) (by decide)), lt_eq, nI_clamp (by omega), nI_clamp (by omega), ← nI_succ]
      simp only [Nat.reduceAdd]
      rw [wr_row, wrow_h, wrow_2, wrow_m (v := 301) (b := 300) (by decide)]
      refine congrArg (fun f => L_M_keep_51 299 K n (nI (i + 1)) (wrow τ 301 f)) ?_
      funext p
      by_cases e : p = 481 * N + i
      · rw [upS_h e, if_pos (by omega), e, show 481 * N + i - 481 * N = i by omega]
      · rw [upS_m e]
        by_cases h : 481 * N ≤ p ∧ p < 481 * N + i
        · rw [if_pos h, if_pos (by omega)]
        · rw [if_neg h, if_neg (by omega)]) 481 0 FU τ rfl (by decide) (by
      show τ = wrow τ 301 (fun p => if 481 * N ≤ p ∧ p < 481 * N + 0 then τ 300 (p - 481 * N) else τ 301 p)
      have : (fun p => if 481 * N ≤ p ∧ p < 481 * N + 0 then τ 300 (p - 481 * N) else τ 301 p) = τ 301 := by
        funext p
        rw [if_neg (by omega)]
      rw [this, wrow_id])
  exact e
/-- what the history's row is behind a record: N states were there, R the row that is kept, Q the rows ahead, Q' behind -/
def KP (Q' Q R : Nat → Int32) (N : Nat) : Prop := (∀ k, k < 481 → Q' (481 * (min (N + 1) 5 - 1) + k) = R k) ∧ ∀ j k, j + 1 < min (N + 1) 5 → k < 481 → Q' (481 * j + k) = Q (481 * (j + (if N = 5 then 1 else 0)) + k)
theorem keep_M {τ : Mem} {N : Nat} (hN : N ≤ 5) (h3 : τ 299 3 = nI N) : ∃ σ', f_M_keep 299 τ = some ((), σ') ∧ (∀ w, w ≠ 299 → w ≠ 301 → σ' w = τ w) ∧ (∀ k, k ≠ 3 → σ' 299 k = τ 299 k) ∧ σ' 299 3 = nI (min (N + 1) 5) ∧ KP (σ' 301) (τ 301) (τ 300) N := by
  unfold f_M_keep
  rw [h3]
  by_cases h5 : N = 5
  · subst h5
    rw [if_pos (by decide), keep_a, lt_eq]
    generalize hQ1 : (fun p => if p < 1924 then τ 301 (p + 481) else τ 301 p) = Q1
    have e3 : wr (wrow τ 301 Q1) 299 3 (wrow τ 301 Q1 299 3 - 1) 299 3 = nI 4 := by
      rw [wr_h rfl rfl, wrow_m (by decide), h3]
      decide
    rw [keep_b (N := 4) (by decide) e3, lt_eq]
    generalize hτ1 : wr (wrow τ 301 Q1) 299 3 (wrow τ 301 Q1 299 3 - 1) = τ1 at *
    have u1 : τ1 301 = Q1 := by rw [← hτ1, wr_other (by decide), wrow_h]
    have u0 : τ1 300 = τ 300 := by rw [← hτ1, wr_other (by decide), wrow_m (by decide)]
    refine ⟨_, rfl, fun w a1 a2 => ?_, fun k hk => ?_, ?_, fun k hk => ?_, fun j k hj hk => ?_⟩
    · rw [wr_other a1, wrow_m a2, ← hτ1, wr_other a1, wrow_m a2]
    · rw [wr_m (Or.inr hk), wrow_m (by decide), ← hτ1, wr_m (Or.inr hk), wrow_m (by decide)]
    · rw [wr_h rfl rfl, wrow_m (by decide), e3]
      decide
    · rw [wr_other (by decide), wrow_h, if_pos (by omega), u0]
      exact congrArg (τ 300) (by omega)
    · rw [wr_other (by decide), wrow_h, if_neg (by omega), u1, ← hQ1, if_pos rfl]
      show (if 481 * j + k < 1924 then τ 301 (481 * j + k + 481) else τ 301 (481 * j + k)) = _
      rw [if_pos (by omega)]
      exact congrArg (τ 301) (by omega)
  · have hne : ¬ nI N = 5 := fun e => h5 ((nI_eq (by omega) (by decide)).mp e)
    rw [if_neg hne, keep_b (N := N) (by omega) h3, lt_eq]
    refine ⟨_, rfl, fun w a1 a2 => ?_, fun k hk => ?_, ?_, fun k hk => ?_, fun j k hj hk => ?_⟩
    · rw [wr_other a1, wrow_m a2]
    · rw [wr_m (Or.inr hk), wrow_m (by decide)]
    · rw [wr_h rfl rfl, wrow_m (by decide), h3, ← nI_succ]
      exact congrArg nI (by omega)
    · rw [wr_other (by decide), wrow_h, if_pos (by omega)]
      exact congrArg (τ 300) (by omega)
    · rw [wr_other (by decide), wrow_h, if_neg (by omega), if_neg h5]
      exact congrArg (τ 301) (by omega)
/-- the class records its hub -/
theorem rec_X {σ : Mem} (hI : Inv σ) : ∃ σ', f_His_record 85 1 σ = some ((), σ') ∧ (∀ w, w ≠ 85 → (w < 87 + 42 * (σ 85 1).toInt.toNat ∨ 87 + 42 * (σ 85 1).toInt.toNat + 42 ≤ w) → σ' w = σ w) ∧ σ' 85 0 = nI (min ((σ 85 0).toInt.toNat + 1) 5) ∧ σ' 85 1 = nI (((σ 85 1).toInt.toNat + 1) % 5) ∧ RH σ' (87 + 42 * (σ 85 1).toInt.toNat) (σ 300) ∧ FBq σ' (87 + 42 * (σ 85 1).toInt.toNat) := by
  obtain ⟨⟨a1, a2, a3⟩, ⟨b1, b2, b3, b4⟩, ⟨c1, c2, c3⟩, f1, f2, f3⟩ := hI
  have en : σ 85 1 = nI (σ 85 1).toInt.toNat := toNI b2.1
  have es : σ 85 0 = nI (σ 85 0).toInt.toNat := toNI b1.1
  have hnx : (σ 85 1).toInt.toNat < 5 := by omega
  have hsz : (σ 85 0).toInt.toNat ≤ 5 := by omega
  generalize (σ 85 1).toInt.toNat = x at *
  generalize (σ 85 0).toInt.toNat = n at *
  obtain ⟨τ, e1, g1, g2⟩ := copy_X (σ := σ) (q := 87 + 42 * x) (q1 := 1) (by omega) f1 (RH_pres a1 a3)
  have e85 : τ 85 = σ 85 := g1 85 (by omega)
  have m1 : f_Mat_floorMod (nI x) 5 σ = some (nI x, σ) := by
    have := fmod_n (a := x) (d := 5) (σ := σ) (by omega) (by decide) (by decide)
    rw [show x % 5 = x from Nat.mod_eq_of_lt hnx] at this
    exact this
  have m2 : f_Mat_floorMod (nI x + 1) 5 τ = some (nI ((x + 1) % 5), τ) := by
    rw [← nI_succ]
    exact fmod_n (a := x + 1) (d := 5) (by omega) (by decide) (by decide)
  have m3 : ∀ τ' : Mem, f_Mat_min (nI n + 1) 5 τ' = some (nI (min (n + 1) 5), τ') := fun τ' => by
    rw [min_s, ← nI_succ]
    by_cases h : 5 < n + 1
    · rw [if_pos (show (5 : Int32) < nI (n + 1) from nI_lt (a := 5) h (by omega)), show min (n + 1) 5 = 5 by omega]
      rfl
    · rw [if_neg (show ¬ (5 : Int32) < nI (n + 1) from nI_nlt (show n + 1 ≤ 5 by omega) (by decide)), show min (n + 1) 5 = n + 1 by omega]
  unfold f_His_record
  rw [en, bd_eq m1, if_pos (ib_nI hnx (by decide)), nI_clamp (by omega), show 85 + 1 + (1 + 42 * x) = 87 + 42 * x by omega, bd_eq e1, e85, en, bd_eq m2, lt_eq, wr_m (by omega), e85, es, bd_eq (m3 _), lt_eq]
  refine ⟨_, rfl, fun w h1 h2 => ?_, ?_, ?_, ?_, ?_⟩
  · rw [wr_other h1, wr_other h1, g1 w (by omega)]
  · rw [wr_h rfl rfl]
  · rw [wr_m (by omega), wr_h rfl rfl]
  · refine RH_cong (nS_le a1.1) (fun w h1 h2 => ?_) (CP_RH a1.1 g2 a3)
    rw [wr_other (by omega), wr_other (by omega)]
  · refine FBq_cong (fun w h1 h2 => ?_) (CP_FB g2 f1)
    rw [wr_other (by omega), wr_other (by omega)]
/-- the history, behind a record on both sides -/
theorem his_rec {σ σ1 σ4 : Mem} (hI : Inv σ) (h1 : ∀ w, w ≠ 85 → (w < 87 + 42 * (σ 85 1).toInt.toNat ∨ 87 + 42 * (σ 85 1).toInt.toNat + 42 ≤ w) → σ1 w = σ w) (h2 : σ1 85 0 = nI (min ((σ 85 0).toInt.toNat + 1) 5)) (h3 : σ1 85 1 = nI (((σ 85 1).toInt.toNat + 1) % 5)) (h4 : RH σ1 (87 + 42 * (σ 85 1).toInt.toNat) (σ 300)) (h5 : FBq σ1 (87 + 42 * (σ 85 1).toInt.toNat)) (hw : ∀ w, 85 ≤ w → w < 297 → σ4 w = σ1 w) (hn : σ4 299 3 = nI (min ((σ 85 0).toInt.toNat + 1) 5)) (hK : KP (σ4 301) (σ 301) (σ 300) (σ 85 0).toInt.toNat) : ((0 ≤ (σ4 85 0).toInt ∧ (σ4 85 0).toInt ≤ 5) ∧ (0 ≤ (σ4 85 1).toInt ∧ (σ4 85 1).toInt < 5) ∧ σ4 299 3 = σ4 85 0 ∧ ∀ j : Nat, (j : Int) < (σ4 85 0).toInt → WF (fun k => σ4 301 (481 * ((σ4 85 0).toInt.toNat - 1 - j) + k)) ∧ (σ4 301 (481 * ((σ4 85 0).toInt.toNat - 1 - j))).toInt ≤ 9999 ∧ RH σ4 (87 + 42 * (((σ4 85 1).toInt.toNat + 4 - j) % 5)) (fun k => σ4 301 (481 * ((σ4 85 0).toInt.toNat - 1 - j) + k))) ∧ ∀ r, r < 5 → FBq σ4 (87 + 42 * r) := by
  obtain ⟨⟨a1, a2, a3⟩, ⟨b1, b2, b3, b4⟩, ⟨c1, c2, c3⟩, f1, f2, f3⟩ := hI
  have hnx : (σ 85 1).toInt.toNat < 5 := by omega
  have hsz : (σ 85 0).toInt.toNat ≤ 5 := by omega
  have hsz2 : (σ 85 0).toInt = ((σ 85 0).toInt.toNat : Int) := by omega
  have e0 : σ4 85 0 = nI (min ((σ 85 0).toInt.toNat + 1) 5) := by rw [hw 85 (by omega) (by omega), h2]
  have e1 : σ4 85 1 = nI (((σ 85 1).toInt.toNat + 1) % 5) := by rw [hw 85 (by omega) (by omega), h3]
  generalize (σ 85 1).toInt.toNat = x at *
  generalize (σ 85 0).toInt.toNat = n at *
  have hm5 : (x + 1) % 5 < 5 := Nat.mod_lt _ (by decide)
  rw [e0, e1, hn, nI_toInt (by omega), nI_toInt (by omega)]
  refine ⟨⟨⟨by omega, by omega⟩, ⟨by omega, by omega⟩, rfl, fun j hj => ?_⟩, fun r hr => ?_⟩
  · rw [show ((min (n + 1) 5 : Nat) : Int).toNat = min (n + 1) 5 from rfl, show (((x + 1) % 5 : Nat) : Int).toNat = (x + 1) % 5 from rfl]
    by_cases hj0 : j = 0
    · subst hj0
      have hrow : ∀ k, k < 481 → (fun k => σ4 301 (481 * (min (n + 1) 5 - 1 - 0) + k)) k = σ 300 k := fun k hk => hK.1 k hk
      have hx : ((x + 1) % 5 + 4 - 0) % 5 = x := by omega
      refine ⟨WF_congS hrow a1, ?_, ?_⟩
      · have := hrow 0 (by omega)
        have e : σ4 301 (481 * (min (n + 1) 5 - 1 - 0)) = σ 300 0 := this
        rw [e]
        exact a2
      · rw [hx]
        exact RH_congS hrow a1 (RH_cong (nS_le a1.1) (fun w g1 g2 => hw w (by omega) (by omega)) h4)
    · obtain ⟨d1, d2, d3⟩ := b4 (j - 1) (by omega)
      have hrow : ∀ k, k < 481 → (fun k => σ4 301 (481 * (min (n + 1) 5 - 1 - j) + k)) k = (fun k => σ 301 (481 * (n - 1 - (j - 1)) + k)) k := fun k hk => by
        have := hK.2 (min (n + 1) 5 - 1 - j) k (by omega) hk
        show σ4 301 (481 * (min (n + 1) 5 - 1 - j) + k) = σ 301 (481 * (n - 1 - (j - 1)) + k)
        rw [this]
        refine congrArg (σ 301) ?_
        by_cases h : n = 5
        · rw [if_pos h]; omega
        · rw [if_neg h]; omega
      have hx : ((x + 1) % 5 + 4 - j) % 5 = (x + 4 - (j - 1)) % 5 := by omega
      have hxx : (x + 4 - (j - 1)) % 5 ≠ x := by omega
      have hx5 : (x + 4 - (j - 1)) % 5 < 5 := Nat.mod_lt _ (by decide)
      refine ⟨WF_congS hrow d1, ?_, ?_⟩
      · have e : σ4 301 (481 * (min (n + 1) 5 - 1 - j)) = σ 301 (481 * (n - 1 - (j - 1))) := hrow 0 (by omega)
        rw [e]
        exact d2
      · rw [hx]
        refine RH_congS hrow d1 (RH_cong (nS_le d1.1) (fun w g1 g2 => ?_) d3)
        rw [hw w (by omega) (by omega), h1 w (by omega) (by omega)]
  · by_cases hr0 : r = x
    · subst hr0
      exact FBq_cong (fun w g1 g2 => hw w (by omega) (by omega)) h5
    · refine FBq_cong (fun w g1 g2 => ?_) (f3 r hr)
      rw [hw w (by omega) (by omega), h1 w (by omega) (by omega)]
