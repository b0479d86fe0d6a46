/-! ticks, one behind another -/
theorem tkS_eq {S F P : Nat → Int32} : (tkS P (S, F)).1 = dueS (stN P (senN P (now1 S, F) (nS S)).2 (senN P (now1 S, F) (nS S)).1 8) := by
  simp only [tkS]
theorem moS_eq {S F P : Nat → Int32} {M : Int32} : moS P (S, F) M = moN P (senN P (now1 S, F) (nS S)).2 (senN P (now1 S, F) (nS S)).1 M 8 := by
  simp only [moS]
theorem tk_W {S F P : Nat → Int32} (hW : WF S) (hn : gI S 0 ≤ 10498) (hP : ∀ k, k < nS S → P k = pd S k) : WF (tkS P (S, F)).1 ∧ cfE S (tkS P (S, F)).1 ∧ gI (tkS P (S, F)).1 0 = gI S 0 + 1 ∧ (∀ p, p < 18 → p ≠ 0 → p ≠ 3 → p ≠ 5 → p ≠ 7 → p ≠ 8 → (tkS P (S, F)).1 p = S p) := by
  have hCW := CW_of hW
  have h0 := hW.1.1
  obtain ⟨a1, a2, a3, a4⟩ := now1_W hW hn
  have hP1 : ∀ k, k < nS (now1 S) → P k = pd (now1 S) k := fun k hk => by
    rw [a4] at hk
    rw [hP k hk, pd_c a3 hCW hk]
  obtain ⟨b1, b2, b3, b4⟩ := senN_W (F := F) a1 hP1 (fun k _ => by rw [a2]; omega) (nS S) (by rw [a4]; omega)
  have hCW1 := CW_of a1
  rw [tkS_eq]
  generalize senN P (now1 S, F) (nS S) = w at *
  obtain ⟨S1, F1⟩ := w
  simp only at b1 b2 b3 b4 ⊢
  obtain ⟨c1, c2, c3⟩ := stN_W (F := F1) (P := P) b1 (by omega) (fun _ => by omega) (fun k hk => by
    rw [cfE_n b4] at hk
    rw [hP1 k hk, pd_c b4 hCW1 hk]) 8 (Nat.le_refl _)
  generalize stN P F1 S1 8 = S2 at *
  obtain ⟨d1, d2, d3⟩ := dueL_W c1 (by omega) (S2 3).toInt.toNat 0 (by omega)
  unfold dueS
  generalize dueL S2 (S2 3).toInt.toNat 0 = S3 at *
  have hcf : cfE S S3 := cfE_tr a3 (cfE_tr b4 (cfE_tr c2 d2))
  have e0 : S3 0 = now1 S 0 := (d3 0 (by omega) (by omega) (by omega) (by omega)).trans ((c3 0 (by omega) (by omega) (by omega) (by omega)).trans (b3 0 (by omega) (by omega)))
  have g0 : gI S3 0 = gI S 0 + 1 := by
    rw [← a2]
    exact congrArg Int32.toInt e0
  refine ⟨?_, hcf, g0, fun p h1 h2 h3 h4 h5 h6 => ?_⟩
  · unfold WF
    rw [g0]
    refine ⟨?_, fun i hi => ⟨(d1.2.1 i hi).1, WR_mono ?_ (d1.2.1 i hi).2⟩, fun j hj => ?_, d1.2.2.2⟩
    · have := d1.1
      unfold WG at this ⊢
      omega
    · show (if i < nS S then gI S 0 + 1 else gI S 0) ≤ gI S 0 + 1
      split <;> omega
    · rcases d1.2.2.1 j hj with h | h
      · exact Or.inl h
      · right
        obtain ⟨k0, k1, k2, k3, k4, k5, k6, k7⟩ := h
        refine ⟨k0, k1, k2, k3, ⟨k4.1, ?_⟩, ⟨k5.1, ?_⟩, k6, k7⟩
        · have := k4.2
          unfold tN at this
          rw [if_pos hj] at this
          exact this
        · have := k5.2
          omega
  · have e1 : S3 p = now1 S p := (d3 p (by omega) h3 h4 h5).trans ((c3 p (by omega) h3 h4 h6).trans (b3 p (by omega) h4))
    rw [e1]
    exact upS_m h2
theorem tick_X {σ : Mem} {q : Nat} {S F P : Nat → Int32} (hW : WF S) (hn : gI S 0 ≤ 10498) (hP : ∀ k, k < nS S → P k = pd S k) (hR : RH σ q S) : ∃ σ1 σ2 σ3, f_Hub_receiveSamples q (wr σ q 0 (σ q 0 + 1)) = some ((), σ1) ∧ f_Hub_storeEntries q σ1 = some ((), σ2) ∧ f_Hub_wakeIfDue q σ2 = some ((), σ3) ∧ RH σ3 q (tkS P (S, F)).1 ∧ σ3 q 5 = moS P (S, F) (σ q 5) ∧ (∀ w, w < q ∨ q + 42 ≤ w → σ3 w = σ w) ∧ (FBq σ q → FBq σ3 q) := by
  have hCW := CW_of hW
  have h0 := hW.1.1
  obtain ⟨a1, a2, a3, a4⟩ := now1_W hW hn
  have hP1 : ∀ k, k < nS (now1 S) → P k = pd (now1 S) k := fun k hk => by
    rw [a4] at hk
    rw [hP k hk, pd_c a3 hCW hk]
  have hR1 := now1_RH hW hR
  have ht : ∀ k, k < nS (now1 S) → (fun _ => gI S 0) k + 1 ≤ gI (now1 S) 0 := fun k _ => by rw [a2]; show gI S 0 + 1 ≤ _; omega
  obtain ⟨b1, b2, b3, b4⟩ := senN_W (F := F) a1 hP1 ht (nS S) (by rw [a4]; omega)
  have hCW1 := CW_of a1
  obtain ⟨σ1, e1, r1, r2, r3, r4, r5⟩ := sens_X (F := F) a1 hP1 ht hR1
  rw [a4] at r1 r2
  rw [tkS_eq, moS_eq]
  generalize senN P (now1 S, F) (nS S) = w at *
  obtain ⟨S1, F1⟩ := w
  simp only at b1 b2 b3 b4 r1 r2 ⊢
  have hPb : ∀ k, k < nS S1 → P k = pd S1 k := fun k hk => by
    rw [cfE_n b4] at hk
    rw [hP1 k hk, pd_c b4 hCW1 hk]
  have hnb : nS S1 = nS S := by rw [cfE_n b4, a4]
  obtain ⟨c1, c2, c3⟩ := stN_W (F := F1) (P := P) b1 (by omega) (fun _ => by omega) hPb 8 (Nat.le_refl _)
  obtain ⟨σ2, e2, s1, s2, s3⟩ := sto_X (F := F1) b1 (by omega) (fun _ => by omega) hPb (fun k hk hf => b2 k (by omega) hf) r1 (by rw [hnb]; exact r2)
  generalize stN P F1 S1 8 = S2 at *
  have h3 := c1.1.2.2.2.2.1
  obtain ⟨σ3, e3, t1, t2, t3⟩ := due_X c1 (by omega) s1 (S2 3).toInt.toNat 0 FU (by omega) (by unfold gI at h3; show _ < 4096; omega)
  refine ⟨σ1, σ2, σ3, e1, e2, e3, t1, ?_, fun w hw => ?_, fun hB => ?_⟩
  · rw [t2, s2, r4 5 (by decide), wr_m (by omega)]
  · rw [t3 w (by omega), s3 w (by omega), r3 w (by omega), wr_other (by omega)]
  · have h1 : FBq (wr σ q 0 (σ q 0 + 1)) q := fun i hi => by
      rw [wr_other (by omega)]
      exact hB i hi
    have h2 := r5 h1
    intro i hi
    rw [t3 _ (by omega), s3 _ (by omega)]
    exact h2 i hi
def passN (P : Nat → Int32) (w : (Nat → Int32) × (Nat → Int32)) : Nat → (Nat → Int32) × (Nat → Int32)
  | 0 => w
  | n + 1 => tkS P (passN P w n)
def moP (P : Nat → Int32) (w : (Nat → Int32) × (Nat → Int32)) (M : Int32) : Nat → Int32
  | 0 => M
  | n + 1 => moS P (passN P w n) (moP P w M n)
theorem pass_W {S F P : Nat → Int32} (hW : WF S) (hP : ∀ k, k < nS S → P k = pd S k) : ∀ n : Nat, gI S 0 + n ≤ 10499 → WF (passN P (S, F) n).1 ∧ cfE S (passN P (S, F) n).1 ∧ gI (passN P (S, F) n).1 0 = gI S 0 + n ∧ (∀ p, p < 18 → p ≠ 0 → p ≠ 3 → p ≠ 5 → p ≠ 7 → p ≠ 8 → (passN P (S, F) n).1 p = S p) := by
  have hCW := CW_of hW
  intro n
  induction n with
  | zero =>
    intro _
    exact ⟨hW, cfE_rfl, by show gI S 0 = _; omega, fun _ _ _ _ _ _ _ => rfl⟩
  | succ n ih =>
    intro hn
    obtain ⟨w1, w2, w3, w4⟩ := ih (by omega)
    obtain ⟨t1, t2, t3, t4⟩ := tk_W (F := (passN P (S, F) n).2) (P := P) w1 (by omega) (fun k hk => by rw [cfE_n w2] at hk; rw [hP k hk, pd_c w2 hCW hk])
    refine ⟨t1, cfE_tr w2 t2, ?_, fun p a1 a2 a3 a4 a5 a6 => (t4 p a1 a2 a3 a4 a5 a6).trans (w4 p a1 a2 a3 a4 a5 a6)⟩
    have : gI (passN P (S, F) (n + 1)).1 0 = gI (passN P (S, F) n).1 0 + 1 := t3
    rw [this, w3]
    omega
theorem run_X {σ : Mem} {q n : Nat} {S F P : Nat → Int32} (hW : WF S) (hP : ∀ k, k < nS S → P k = pd S k) (hn : gI S 0 + n ≤ 10499) (hn5 : n ≤ 500) (hR : RH σ q S) : ∃ σ', f_Hub_runTicks q (nI n) σ = some ((), σ') ∧ RH σ' q (passN P (S, F) n).1 ∧ σ' q 5 = moP P (S, F) 0 n ∧ (∀ w, w < q ∨ q + 42 ≤ w → σ' w = σ w) ∧ (FBq σ q → FBq σ' q) := by
  have hCW := CW_of hW
  have hR5 : RH (wr σ q 5 0) q S := by
    have ho : ∀ w, w ≠ q → wr σ q 5 0 w = σ w := fun w hw => wr_other hw
    obtain ⟨hRG, hRO, hRE, hRRS, hRCS⟩ := hR
    refine ⟨?_, ?_, ?_, fun i hi => ?_, fun j hj => ?_⟩
    · unfold RG at hRG ⊢
      rw [ho (q + 1) (by omega), wr_m (by omega), wr_m (by omega), wr_m (by omega), wr_m (by omega), wr_m (by omega)]
      exact hRG
    · unfold RO at hRO ⊢
      rw [ho (q + 4) (by omega), ho (q + 4 + 1) (by omega), ho (q + 4 + 2) (by omega), ho (q + 4 + 3) (by omega)]
      exact hRO
    · unfold RE at hRE ⊢
      rw [ho (q + 8) (by omega), ho (q + 8 + 1) (by omega)]
      exact hRE
    · rw [ho _ (by omega), ho _ (by omega)]
      exact hRRS i hi
    · rw [ho _ (by omega), ho _ (by omega)]
      exact hRCS j hj
  unfold f_Hub_runTicks
  rw [lt_eq]
  obtain ⟨σ', e, hI⟩ := loopR (L_Hub_runTicks_7 q (nI n) (fun σ9 => some ((), σ9))) (fun σ9 => some ((), σ9)) n (fun i τ => RH τ q (passN P (S, F) i).1 ∧ τ q 5 = moP P (S, F) 0 i ∧ (∀ w, w < q ∨ q + 42 ≤ w → τ w = σ w) ∧ (FBq σ q → FBq τ q))
    (fun m τ hI => by
      show (if nI n ≤ nI n then _ else _) = _
      rw [if_pos (nI_le (Nat.le_refl _) (by omega))])
    (fun m i τ hi hI => by
      obtain ⟨i1, i2, i3, i4⟩ := hI
      obtain ⟨w1, w2, w3, w4⟩ := pass_W (F := F) (P := P) hW hP i (by omega)
      obtain ⟨σ1, σ2, σ3, e1, e2, e3, t1, t2, t3, t4⟩ := tick_X (F := (passN P (S, F) i).2) (P := P) w1 (by omega) (fun k hk => by rw [cfE_n w2] at hk; rw [hP k hk, pd_c w2 hCW hk]) i1
      refine ⟨σ3, ?_, t1, ?_, fun w hw => (t3 w hw).trans (i3 w hw), fun hB => t4 (i4 hB)⟩
      · show (if nI n ≤ nI i then _ else _) = _
        rw [if_neg (nI_ge hi (by omega)), lt_eq, bd_eq e1, bd_eq e2, bd_eq e3, ← nI_succ]
      · rw [t2, i2]
        rfl) n 0 FU (wr σ q 5 0) (by omega) (by show n < 4096; omega) ⟨hR5, wr_h rfl rfl, fun w hw => wr_other (by omega), fun hB i hi => by rw [wr_other (by omega)]; exact hB i hi⟩
  exact ⟨σ', e, hI⟩
theorem tick_M {τ : Mem} {P : Nat → Int32} (hW : WF (τ 300)) (hn : gI (τ 300) 0 ≤ 10498) (hP : ∀ k, k < nS (τ 300) → P k = pd (τ 300) k) (hPP : ∀ k, k < nS (τ 300) → τ 305 k = P k) : f_M_tick 299 τ = some ((), wrow (wrow τ 307 (tkS P (τ 300, τ 307)).2) 300 (tkS P (τ 300, τ 307)).1) := by
  have hCW := CW_of hW
  have h0 := hW.1.1
  obtain ⟨a1, a2, a3, a4⟩ := now1_W hW hn
  have hP1 : ∀ k, k < nS (now1 (τ 300)) → P k = pd (now1 (τ 300)) k := fun k hk => by
    rw [a4] at hk
    rw [hP k hk, pd_c a3 hCW hk]
  have ht : ∀ k, k < nS (now1 (τ 300)) → (fun _ => gI (τ 300) 0) k + 1 ≤ gI (now1 (τ 300)) 0 := fun k _ => by rw [a2]; show gI (τ 300) 0 + 1 ≤ _; omega
  obtain ⟨b1, b2, b3, b4⟩ := senN_W (F := τ 307) a1 hP1 ht (nS (τ 300)) (by rw [a4]; omega)
  have hCW1 := CW_of a1
  have hPb : ∀ k, k < nS (senN P (now1 (τ 300), τ 307) (nS (τ 300))).1 → P k = pd (senN P (now1 (τ 300), τ 307) (nS (τ 300))).1 k := fun k hk => by
    rw [cfE_n b4] at hk
    rw [hP1 k hk, pd_c b4 hCW1 hk]
  have hnb : nS (senN P (now1 (τ 300), τ 307) (nS (τ 300))).1 = nS (τ 300) := by rw [cfE_n b4, a4]
  obtain ⟨c1, c2, c3⟩ := stN_W (F := (senN P (now1 (τ 300), τ 307) (nS (τ 300))).2) (P := P) b1 (by omega) (fun _ => by omega) hPb 8 (Nat.le_refl _)
  have h3 := c1.1.2.2.2.2.1
  have hm0 : wr τ 300 0 (τ 300 0 + 1) = wrow τ 300 (now1 (τ 300)) := by rw [wr_row]; rfl
  unfold f_M_tick
  simp only [Nat.reduceAdd]
  rw [lt_eq, hm0]
  have q300 : wrow τ 300 (now1 (τ 300)) 300 = now1 (τ 300) := wrow_h
  have q305 : wrow τ 300 (now1 (τ 300)) 305 = τ 305 := wrow_m (by decide)
  have q307 : wrow τ 300 (now1 (τ 300)) 307 = τ 307 := wrow_m (by decide)
  rw [tick12_M (τ := wrow τ 300 (now1 (τ 300))) (P := P) (T := fun _ => gI (τ 300) 0) (tC := fun _ => gI (τ 300) 0) (b := 8 * gI (τ 300) 0) (by rw [q300]; exact a1) (by rw [q300]; exact hP1) (by rw [q300, q305, a4]; exact hPP) (by rw [q300]; exact ht), q300, q307, a4]
  generalize hw : senN P (now1 (τ 300), τ 307) (nS (τ 300)) = w at *
  obtain ⟨S1, F1⟩ := w
  simp only at b1 b2 b3 b4 hPb hnb c1 c2 c3 h3 ⊢
  have hmem : wrow (wrow (wrow τ 300 (now1 (τ 300))) 307 F1) 300 S1 = wrow (wrow τ 307 F1) 300 S1 := by
    rw [wrow_c (v := 300) (w := 307) (by decide), wrow_2]
  have u300 : wrow (wrow τ 307 F1) 300 S1 300 = S1 := wrow_h
  have u305 : wrow (wrow τ 307 F1) 300 S1 305 = τ 305 := by rw [wrow_m (by decide), wrow_m (by decide)]
  have u307 : wrow (wrow τ 307 F1) 300 S1 307 = F1 := by rw [wrow_m (by decide), wrow_h]
  rw [hmem, tick82_M (τ := wrow (wrow τ 307 F1) 300 S1) (P := P) (by rw [u300]; exact b1) (by omega) (fun _ => by omega) (by rw [u300]; exact hPb) (by rw [u300, u305, hnb]; exact hPP), u300, u307, wrow_2]
  have hd := due_M (τ := wrow (wrow τ 307 F1) 300 (stN P F1 S1 8)) (K := fun σ29 => some ((), σ29)) (by rw [wrow_h]; exact c1) (by omega) (stN P F1 S1 8 3).toInt.toNat 0 FU (by rw [wrow_h]; omega) (by unfold gI at h3; show _ < 4096; omega)
  rw [wrow_h, wrow_2] at hd
  refine hd.trans ?_
  have e7 : tkS P (τ 300, τ 307) = (dueS (stN P F1 S1 8), F1) := by
    simp only [tkS]
    rw [hw]
  rw [e7]
  simp only [dueS]
theorem pass_M {τ : Mem} {n : Nat} (hW : WF (τ 300)) (hn : gI (τ 300) 0 + n ≤ 10499) (hn5 : n ≤ 500) : ∃ D P, f_M_pass 299 (nI n) τ = some ((), wrow (wrow (wrow (wrow τ 304 D) 305 P) 307 (passN (pd (τ 300)) (τ 300, τ 307) n).2) 300 (passN (pd (τ 300)) (τ 300, τ 307) n).1) := by
  have hCW := CW_of hW
  obtain ⟨z, D, P, e, h1, h2⟩ := find_M hCW hW.1.2.2.1.1
  refine ⟨D, P, ?_⟩
  unfold f_M_pass
  rw [bd_eq e]
  obtain ⟨σ', e2, rfl⟩ := loopR (L_M_pass_7 299 (nI n) (fun σ5 => some ((), σ5))) (fun σ5 => some ((), σ5)) n (fun i σ => σ = wrow (wrow (wrow (wrow τ 304 D) 305 P) 307 (passN (pd (τ 300)) (τ 300, τ 307) i).2) 300 (passN (pd (τ 300)) (τ 300, τ 307) i).1)
    (fun m σ _ => by
      show (if nI n ≤ nI n then _ else _) = _
      rw [if_pos (nI_le (Nat.le_refl _) (by omega))])
    (fun m i σ hi hI => by
      subst hI
      obtain ⟨w1, w2, w3, w4⟩ := pass_W (F := τ 307) (P := pd (τ 300)) hW (fun _ _ => rfl) i (by omega)
      refine ⟨_, ?_, rfl⟩
      show _ = L_M_pass_7 299 (nI n) (fun σ5 => some ((), σ5)) m (nI (i + 1)) (wrow (wrow (wrow (wrow τ 304 D) 305 P) 307 (tkS (pd (τ 300)) (passN (pd (τ 300)) (τ 300, τ 307) i)).2) 300 (tkS (pd (τ 300)) (passN (pd (τ 300)) (τ 300, τ 307) i)).1)
      have hni := cfE_n w2
      have hpi : ∀ k, k < nS (τ 300) → pd (τ 300) k = pd (passN (pd (τ 300)) (τ 300, τ 307) i).1 k := fun k hk => (pd_c w2 hCW hk).symm
      generalize passN (pd (τ 300)) (τ 300, τ 307) i = w at *
      obtain ⟨S1, F1⟩ := w
      simp only at w1 w2 w3 w4 hni hpi ⊢
      have u300 : wrow (wrow (wrow (wrow τ 304 D) 305 P) 307 F1) 300 S1 300 = S1 := wrow_h
      have u305 : wrow (wrow (wrow (wrow τ 304 D) 305 P) 307 F1) 300 S1 305 = P := by rw [wrow_m (by decide), wrow_m (by decide), wrow_h]
      have u307 : wrow (wrow (wrow (wrow τ 304 D) 305 P) 307 F1) 300 S1 307 = F1 := by rw [wrow_m (by decide), wrow_h]
      have ht := tick_M (τ := wrow (wrow (wrow (wrow τ 304 D) 305 P) 307 F1) 300 S1) (P := pd (τ 300)) (by rw [u300]; exact w1) (by rw [u300]; omega) (by rw [u300, hni]; exact hpi) (by rw [u300, u305, hni]; exact h2)
      rw [u300, u307, wrow4] at ht
      show (if nI n ≤ nI i then _ else _) = _
      rw [if_neg (nI_ge hi (by omega)), bd_eq ht, ← nI_succ]) n 0 FU (wrow (wrow τ 304 D) 305 P) (by omega) (by show n < 4096; omega) (by
      show _ = wrow (wrow (wrow (wrow τ 304 D) 305 P) 307 (τ 307)) 300 (τ 300)
      have a7 : wrow (wrow τ 304 D) 305 P 307 = τ 307 := by rw [wrow_m (by decide), wrow_m (by decide)]
      have a0 : wrow (wrow τ 304 D) 305 P 300 = τ 300 := by rw [wrow_m (by decide), wrow_m (by decide)]
      rw [← a7, wrow_id, ← a0, wrow_id])
  exact e2
