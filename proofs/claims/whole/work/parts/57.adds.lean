/-! a sensor is added: both sides -/
def gP (q st sl of ji co : Int32) : Nat → Int32
  | 0 => 4
  | 1 => q
  | 2 => st
  | 3 => sl
  | 4 => of
  | 5 => ji
  | 6 => co
  | _ => 0
def gG (a b c d e : Int32) : Nat → Int32
  | 0 => a
  | 1 => b
  | 2 => c
  | 3 => d
  | 4 => e
  | _ => 0
theorem gP_0 {q st sl of ji co : Int32} {k : Nat} (h : 7 ≤ k) : gP q st sl of ji co k = 0 := by
  obtain ⟨k, rfl⟩ : ∃ z, k = z + 7 := ⟨k - 7, by omega⟩
  rfl
theorem gG_0 {a b c d e : Int32} {k : Nat} (h : 5 ≤ k) : gG a b c d e k = 0 := by
  obtain ⟨k, rfl⟩ : ∃ z, k = z + 5 := ⟨k - 5, by omega⟩
  rfl
theorem given_lp {τ : Mem} {y1 y2 y3 y4 y5 : Int32} {K : Mem → Option (Int32 × Mem)} {a : Nat} (ha : a + 19 ≤ 481) : L_M_addGiven_17 299 y1 y2 y3 y4 y5 (nI a) K FU 0 τ = K (wrow τ 300 (fun p => if a ≤ p ∧ p < a + 19 then 0 else τ 300 p)) := by
  obtain ⟨σ', e, rfl⟩ := loopR (L_M_addGiven_17 299 y1 y2 y3 y4 y5 (nI a) K) K 19 (fun i σ => σ = wrow τ 300 (fun p => if a ≤ p ∧ p < a + i then 0 else τ 300 p))
    (fun n σ _ => by show (if (19 : Int32) ≤ nI 19 then _ else _) = _; rw [if_pos (by decide)])
    (fun n i σ hi hI => by
      subst hI
      refine ⟨_, ?_, rfl⟩
      show (if (19 : Int32) ≤ nI i then _ else _) = _
      rw [if_neg (show ¬ (19 : Int32) ≤ nI i from nI_ge hi (by decide)), nI_add, if_pos (ib_nI (by omega) (by decide)), lt_eq, nI_clamp (by omega), ← nI_succ]
      simp only [Nat.reduceAdd]
      rw [wr_row, wrow_h, wrow_2]
      refine congrArg (fun f => L_M_addGiven_17 299 y1 y2 y3 y4 y5 (nI a) K n (nI (i + 1)) (wrow τ 300 f)) ?_
      funext p
      by_cases e : p = a + i
      · rw [upS_h e, if_pos (by omega)]
      · rw [upS_m e]
        by_cases h : a ≤ p ∧ p < a + i
        · rw [if_pos h, if_pos (by omega)]
        · rw [if_neg h, if_neg (by omega)]) 19 0 FU τ rfl (by decide) (by
      show τ = wrow τ 300 (fun p => if a ≤ p ∧ p < a + 0 then 0 else τ 300 p)
      have : (fun p => if a ≤ p ∧ p < a + 0 then 0 else τ 300 p) = τ 300 := by
        funext p
        rw [if_neg (by omega)]
      rw [this, wrow_id])
  exact e
theorem given_M {τ : Mem} {a b c d e : Int32} (h1 : 0 ≤ gI (τ 300) 1) (hn : nS (τ 300) < 8) : f_M_addGiven 299 a b c d e τ = some (nI (nS (τ 300)), wrow τ 300 (rowA (τ 300) (gG a b c d e))) := by
  have en : τ 300 1 = nI (nS (τ 300)) := toNI h1
  have hv : (11 : Int32) + 19 * nI (nS (τ 300)) = nI (11 + 19 * nS (τ 300)) := by rw [nI_Lm, nI_La]
  unfold f_M_addGiven
  simp only [Nat.reduceAdd]
  rw [en, hv, lt_eq, given_lp (by omega)]
  have q1 : nI (11 + 19 * nS (τ 300)) + 0 = nI (11 + 19 * nS (τ 300)) := Int32.add_zero _
  have q2 : nI (11 + 19 * nS (τ 300)) + 1 = nI (12 + 19 * nS (τ 300)) := by rw [← nI_succ]; exact congrArg nI (by omega)
  have q3 : nI (12 + 19 * nS (τ 300)) + 1 = nI (13 + 19 * nS (τ 300)) := by rw [← nI_succ]; exact congrArg nI (by omega)
  have q4 : nI (12 + 19 * nS (τ 300)) + 2 = nI (14 + 19 * nS (τ 300)) := by rw [nI_aL]; exact congrArg nI (by omega)
  have q5 : nI (12 + 19 * nS (τ 300)) + 3 = nI (15 + 19 * nS (τ 300)) := by rw [nI_aL]; exact congrArg nI (by omega)
  have hib : ∀ k, k < 20 → ib (nI (k + 19 * nS (τ 300))) 481 := fun k hk => ib_nI (by omega) (by decide)
  have hcl : ∀ k, k < 20 → (nI (k + 19 * nS (τ 300))).toNatClampNeg = k + 19 * nS (τ 300) := fun k hk => nI_clamp (by omega)
  rw [q1, q2, q3, q4, q5, if_pos (hib 11 (by decide)), lt_eq, if_pos (hib 12 (by decide)), lt_eq, if_pos (hib 13 (by decide)), lt_eq, if_pos (hib 14 (by decide)), lt_eq, if_pos (hib 15 (by decide)), lt_eq, lt_eq, hcl 11 (by decide), hcl 12 (by decide), hcl 13 (by decide), hcl 14 (by decide), hcl 15 (by decide)]
  simp only [wr_row, wrow_h, wrow_2]
  generalize hN : nS (τ 300) = N at *
  have hrow : upS (upS (upS (upS (upS (upS (fun p => if 11 + 19 * N ≤ p ∧ p < 11 + 19 * N + 19 then 0 else τ 300 p) (11 + 19 * N) a) (12 + 19 * N) b) (13 + 19 * N) c) (14 + 19 * N) d) (15 + 19 * N) e) 1 (upS (upS (upS (upS (upS (fun p => if 11 + 19 * N ≤ p ∧ p < 11 + 19 * N + 19 then 0 else τ 300 p) (11 + 19 * N) a) (12 + 19 * N) b) (13 + 19 * N) c) (14 + 19 * N) d) (15 + 19 * N) e 1 + 1) = rowA (τ 300) (gG a b c d e) := by
    funext p
    by_cases p1 : p = 1
    · subst p1
      rw [upS_h rfl, upS_m (by omega), upS_m (by omega), upS_m (by omega), upS_m (by omega), upS_m (by omega), if_neg (by omega), rowA_1]
    · rw [upS_m p1]
      by_cases hr : 11 + 19 * N ≤ p ∧ p < 11 + 19 * N + 19
      · obtain ⟨k, rfl⟩ : ∃ k, p = 11 + 19 * N + k := ⟨p - (11 + 19 * N), by omega⟩
        rw [rowA_g k (by omega) (by rw [hN])]
        rcases (by omega : k = 0 ∨ k = 1 ∨ k = 2 ∨ k = 3 ∨ k = 4 ∨ 5 ≤ k) with rfl | rfl | rfl | rfl | rfl | hk
        · rw [upS_m (by omega), upS_m (by omega), upS_m (by omega), upS_m (by omega), upS_h (by omega)]; rfl
        · rw [upS_m (by omega), upS_m (by omega), upS_m (by omega), upS_h (by omega)]; rfl
        · rw [upS_m (by omega), upS_m (by omega), upS_h (by omega)]; rfl
        · rw [upS_m (by omega), upS_h (by omega)]; rfl
        · rw [upS_h (by omega)]; rfl
        · rw [upS_m (by omega), upS_m (by omega), upS_m (by omega), upS_m (by omega), upS_m (by omega), if_pos hr, gG_0 hk]
      · rw [upS_m (by omega), upS_m (by omega), upS_m (by omega), upS_m (by omega), upS_m (by omega), if_neg hr, rowA_m p1 (by omega)]
  rw [hrow, rowA_1, en]
  have : nI N + 1 - 1 = nI N := by
    rw [← nI_succ]
    exact pk_sub (b := 1) (by omega)
  rw [this]
theorem phy_M {τ : Mem} {q st sl of ji co : Int32} (h1 : 0 ≤ gI (τ 300) 1) (hn : nS (τ 300) < 8) : f_M_addPhysical 299 q st sl of ji co τ = some (nI (nS (τ 300)), wrow τ 300 (rowA (τ 300) (gP q st sl of ji co))) := by
  unfold f_M_addPhysical
  rw [bd_eq (given_M h1 hn)]
  generalize hN : nS (τ 300) = N at *
  have q5 : (11 : Int32) + 19 * nI N + 1 + 4 = nI (16 + 19 * N) := by
    rw [nI_Lm, nI_La, ← nI_succ, nI_aL]
    exact congrArg nI (by omega)
  have q6 : (11 : Int32) + 19 * nI N + 1 + 5 = nI (17 + 19 * N) := by
    rw [nI_Lm, nI_La, ← nI_succ, nI_aL]
    exact congrArg nI (by omega)
  rw [q5, q6, if_pos (ib_nI (by omega) (by decide)), lt_eq, if_pos (ib_nI (by omega) (by decide)), lt_eq, nI_clamp (by omega), nI_clamp (by omega)]
  simp only [Nat.reduceAdd, wr_row, wrow_h, wrow_2]
  refine congrArg (fun f => some (nI N, wrow τ 300 f)) ?_
  funext p
  by_cases p1 : p = 1
  · subst p1
    rw [upS_m (by omega), upS_m (by omega), rowA_1, rowA_1]
  · by_cases hr : 11 + 19 * N ≤ p ∧ p < 11 + 19 * N + 19
    · obtain ⟨k, rfl⟩ : ∃ k, p = 11 + 19 * N + k := ⟨p - (11 + 19 * N), by omega⟩
      rw [rowA_g (g := gP q st sl of ji co) k (by omega) (by rw [hN])]
      rcases (by omega : k = 5 ∨ k = 6 ∨ (k ≠ 5 ∧ k ≠ 6)) with rfl | rfl | hk
      · rw [upS_m (by omega), upS_h (by omega)]; rfl
      · rw [upS_h (by omega)]; rfl
      · rw [upS_m (by omega), upS_m (by omega), rowA_g k (by omega) (by rw [hN])]
        rcases (by omega : k = 0 ∨ k = 1 ∨ k = 2 ∨ k = 3 ∨ k = 4 ∨ 7 ≤ k) with rfl | rfl | rfl | rfl | rfl | hk7
        · rfl
        · rfl
        · rfl
        · rfl
        · rfl
        · rw [gP_0 hk7, gG_0 (by omega)]
    · rw [upS_m (by omega), upS_m (by omega), rowA_m p1 (by omega), rowA_m p1 (by omega)]
theorem nS_toI {S : Nat → Int32} {b : Int} (hG : WG S b) : S 1 = nI (nS S) := toNI hG.2.2.1.1
theorem phy_WP {S : Nat → Int32} {q st sl of ji co : Int32} (hq : 1 ≤ q.toInt ∧ q.toInt ≤ 20) (hst : 1 ≤ st.toInt ∧ st.toInt ≤ 5) (hsl : 0 ≤ sl.toInt ∧ sl.toInt ≤ 99) (hof : 0 ≤ of.toInt ∧ of.toInt ≤ 999) (hji : 0 ≤ ji.toInt ∧ ji.toInt ≤ 9) (hco : 1 ≤ co.toInt ∧ co.toInt ≤ 50) : WP (rowA S (gP q st sl of ji co)) (nS S) := by
  left
  unfold gI
  rw [rowA_g 0 (by decide) (by omega), rowA_g (p := 12 + 19 * nS S) 1 (by decide) (by omega), rowA_g (p := 13 + 19 * nS S) 2 (by decide) (by omega), rowA_g (p := 14 + 19 * nS S) 3 (by decide) (by omega), rowA_g (p := 15 + 19 * nS S) 4 (by decide) (by omega), rowA_g (p := 16 + 19 * nS S) 5 (by decide) (by omega), rowA_g (p := 17 + 19 * nS S) 6 (by decide) (by omega)]
  exact ⟨rfl, hq, hst, hsl, hof, hji, hco⟩
theorem phy_X {σ : Mem} {p : Nat} {S : Nat → Int32} {tS tC : Nat → Int} {b : Int} {q st sl of ji co : Int32} (hW : WX S tS tC b) (hn : nS S < 8) (hP : WP (rowA S (gP q st sl of ji co)) (nS S)) (ht : 0 ≤ tS (nS S)) (hR : RH σ p S) : ∃ σ', f_Hub_addPhysical p q st sl of ji co σ = some (nI (nS S), σ') ∧ RH σ' p (rowA S (gP q st sl of ji co)) ∧ (∀ w, (w < p ∨ p + 26 ≤ w) → σ' w = σ w) ∧ (FBq σ p → FBq σ' p) := by
  have e4 : σ p 4 = nI (nS S) := by rw [hR.1.2.2.2.2.1]; exact nS_toI hW.1
  have hCW' : CW (rowA S (gP q st sl of ji co)) := CW_of (add_W (g := gP q st sl of ji co) hW hn (fun k h7 _ => gP_0 h7) hP ht)
  have hnn : nS (rowA S (gP q st sl of ji co)) = nS S + 1 := rowA_n hW.1 hn
  unfold f_Hub_addPhysical
  rw [lt_eq, e4, bd_eq (sensorRoom_nI hn), oe_some]
  unfold f_Sen_becomePhysical f_Sen_becomeIdle f_Sen_forget
  simp only [lt_eq, bd_some]
  generalize hc : p + 2 + (8 + 2 * nS S) = c
  generalize hτ : wr (wr (wr (wr (wr (wr _ c 9 _) c 10 _) c 11 _) c 12 _) c 16 _) c 13 _ = τ
  have hcp : c ≠ p := by omega
  have o1 : ∀ w, w ≠ c → τ w = σ w := fun w hw => by
    rw [← hτ]
    simp (disch := omega) only [wr_other]
  have f0 : τ c 0 = 4 := by rw [← hτ]; simp [wr]
  have f1 : τ c 1 = q := by rw [← hτ]; simp [wr]
  have f2 : τ c 2 = st := by rw [← hτ]; simp [wr]
  have f3 : τ c 3 = sl := by rw [← hτ]; simp [wr]
  have f4 : τ c 4 = of := by rw [← hτ]; simp [wr]
  have f5 : τ c 5 = ji := by rw [← hτ]; simp [wr]
  have f6 : τ c 6 = co := by rw [← hτ]; simp [wr]
  have f9 : τ c 9 = nI (nS S) := by rw [← hτ]; simp [wr]
  have f10 : τ c 10 = -9 := by rw [← hτ]; simp [wr]
  have f11 : τ c 11 = -9 := by rw [← hτ]; simp [wr]
  have f12 : τ c 12 = 0 := by rw [← hτ]; simp [wr]
  have f16 : τ c 16 = 0 := by rw [← hτ]; simp [wr]
  have f13 : τ c 13 = 0 := by rw [← hτ]; simp [wr]
  clear hτ
  have hpc : p ≠ c := by omega
  refine ⟨_, rfl, ?_, fun w hw => ?_, fun hB i hi => ?_⟩
  · have cc : ∀ x, wr τ p 4 x c = τ c := fun x => wr_other hcp
    refine add_RH hW hn (fun k h7 _ => gP_0 h7) hR (fun w h1 h2 => ?_) (fun k hk => ?_) ?_ ?_ ?_ ?_ ?_ ?_
    · rw [wr_other h1, o1 w (by omega)]
    · rw [wr_m (Or.inr hk), o1 p hpc]
    · rw [wr_h rfl rfl, o1 p hpc, hR.1.2.2.2.2.1]
    · rw [hc, cc]
      have l4 : rowA S (gP q st sl of ji co) (11 + 19 * nS S) = 4 := rowA_g 0 (by decide) (by omega)
      have lst' : lst (rowA S (gP q st sl of ji co)) (nS S) = q.toInt := by
        rw [lst_eq hCW' (by omega), if_pos l4]
        unfold gI
        rw [rowA_g 1 (by decide) (by omega)]
        rfl
      unfold RP
      rw [f0, f1, f2, f3, f4, f5, f6, f9, l4, src_id l4, lst', rowA_g (p := 12 + 19 * nS S) 1 (by decide) (by omega), rowA_g (p := 13 + 19 * nS S) 2 (by decide) (by omega), rowA_g (p := 14 + 19 * nS S) 3 (by decide) (by omega), rowA_g (p := 15 + 19 * nS S) 4 (by decide) (by omega), rowA_g (p := 16 + 19 * nS S) 5 (by decide) (by omega), rowA_g (p := 17 + 19 * nS S) 6 (by decide) (by omega)]
      exact ⟨rfl, fun _ => ⟨rfl, rfl, rfl, rfl, rfl, rfl⟩, fun h => absurd rfl h, rfl, rfl⟩
    · rw [hc, cc]; exact f10
    · rw [hc, cc]; exact f11
    · rw [hc, cc]; exact f12
    · rw [hc, cc]; exact f16
  · rw [wr_other (by omega), o1 w (by omega)]
  · rw [wr_other (by omega)]
    by_cases e : p + 2 + (8 + 2 * i) = c
    · rw [e]; exact Or.inl f13
    · rw [o1 _ e]; exact hB i hi
