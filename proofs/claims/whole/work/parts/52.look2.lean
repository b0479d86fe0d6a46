/-! the calls that look: client, delivered, nextDeadline -/
def stF (S : Nat → Int32) (c : Int32) : Nat → Int32
  | 0 => 0
  | e + 1 => if S (391 + 3 * e) = c then stF S c e + 1 else stF S c e
theorem stored_X {σ : Mem} {q : Nat} {S : Nat → Int32} {tS tC : Nat → Int} {b : Int} {c : Int32} (hW : WX S tS tC b) (hR : RH σ q S) : f_Sto_entriesOf (q + 8) c σ = some (stF S c (S 3).toInt.toNat, σ) := by
  have h3 := hW.1.2.2.2.2.1
  have e3 : S 3 = nI (S 3).toInt.toNat := toNI h3.1
  have hn : (S 3).toInt.toNat ≤ 30 := by unfold gI at h3; omega
  have hRE := hR.2.2.1
  unfold f_Sto_entriesOf
  obtain ⟨a, σ', e, ha, hs⟩ := loopA (L_Sto_entriesOf_4 (q + 8) c (fun z3 σ4 => some (z3, σ4))) (fun z3 σ4 => some (z3, σ4)) (S 3).toInt.toNat (fun j a τ => a = stF S c j ∧ τ = σ)
    (fun n a τ hI => by
      obtain ⟨_, rfl⟩ := hI
      show (if τ (q + 8) 0 ≤ nI (S 3).toInt.toNat then _ else _) = _
      rw [hRE.1, ← e3, if_pos (by rw [Int32.le_iff_toInt_le]; omega)])
    (fun n j a τ hj hI => by
      obtain ⟨rfl, rfl⟩ := hI
      refine ⟨_, τ, ?_, rfl, rfl⟩
      have sz : ¬ (τ (q + 8) 0).toInt ≤ (j : Int) := by rw [hRE.1]; omega
      have p0 : f_Sto_part (q + 8) (nI j) 0 τ = some (S (391 + 3 * j), τ) := by
        rw [part_s j 0 (nI_toInt (by omega)) z0T (by omega) (by decide), if_neg sz, hRE.2 j 0 (by unfold gI; omega) (by decide)]; rfl
      show (if τ (q + 8) 0 ≤ nI j then _ else _) = L_Sto_entriesOf_4 (q + 8) c _ n (if S (391 + 3 * j) = c then stF S c j + 1 else stF S c j) (nI (j + 1)) τ
      rw [hRE.1, if_neg (by rw [e3]; exact nI_ge hj (by omega)), bd_eq p0, ← nI_succ]
      by_cases h : S (391 + 3 * j) = c
      · rw [if_pos h, if_pos h]
      · rw [if_neg h, if_neg h]) (S 3).toInt.toNat 0 FU 0 σ (by omega) (by show _ < 4096; omega) ⟨rfl, rfl⟩
  refine Eq.trans e ?_
  rw [ha, hs]
theorem stored_M {τ : Mem} {c : Int32} (h3 : 0 ≤ gI (τ 300) 3 ∧ gI (τ 300) 3 ≤ 30) : f_M_stored 299 c τ = some (stF (τ 300) c (τ 300 3).toInt.toNat, τ) := by
  have e3 : τ 300 3 = nI (τ 300 3).toInt.toNat := toNI h3.1
  have hn : (τ 300 3).toInt.toNat ≤ 30 := by unfold gI at h3; omega
  unfold f_M_stored
  obtain ⟨a, σ', e, ha, hs⟩ := loopA (L_M_stored_4 299 c (fun z5 σ6 => some (z5, σ6))) (fun z5 σ6 => some (z5, σ6)) (τ 300 3).toInt.toNat (fun j a σ => a = stF (τ 300) c j ∧ σ = τ)
    (fun n a σ hI => by
      obtain ⟨_, rfl⟩ := hI
      show (if σ 300 3 ≤ nI (σ 300 3).toInt.toNat then _ else _) = _
      rw [← e3, if_pos (by rw [Int32.le_iff_toInt_le]; omega)])
    (fun n j a σ hj hI => by
      obtain ⟨rfl, rfl⟩ := hI
      refine ⟨_, σ, ?_, rfl, rfl⟩
      have p0 : f_M_entryPart 299 (nI j) 0 σ = some (σ 300 (391 + 3 * j), σ) := entryPart_s j 0 (nI_toInt (by omega)) z0T (by omega) (by decide)
      show (if σ 300 3 ≤ nI j then _ else _) = L_M_stored_4 299 c _ n (if σ 300 (391 + 3 * j) = c then stF (σ 300) c j + 1 else stF (σ 300) c j) (nI (j + 1)) σ
      rw [if_neg (by rw [e3]; exact nI_ge hj (by omega)), bd_eq p0, ← nI_succ]
      by_cases h : σ 300 (391 + 3 * j) = c
      · rw [if_pos h, if_pos h, lt_eq]
      · rw [if_neg h, if_neg h, lt_eq, Int32.add_zero]) (τ 300 3).toInt.toNat 0 FU 0 τ (by omega) (by show _ < 4096; omega) ⟨rfl, rfl⟩
  refine Eq.trans e ?_
  rw [ha, hs]
theorem s_client (a1 a2 : Int32) : Same (f_X_client 0 a1 a2) (f_M_client 299 a1 a2) := by
  intro σ hI
  obtain ⟨hW, hle, hR⟩ := hI.1
  have hx1 := clientAt_c (p := a1) hW hR
  have hm1 := isClient_s (τ := wr σ 299 0 0) (p := a1)
  rw [thr300] at hm1
  have h8 := nS_le hW.1
  have h0n := hW.1.1
  by_cases hp : 0 ≤ a1.toInt ∧ a1.toInt < 8 ∧ σ 300 (163 + 27 * a1.toInt.toNat) = 1
  · rw [if_pos hp] at hx1 hm1
    have hj : a1.toInt.toNat < 8 := by omega
    have e1 : a1 = nI a1.toInt.toNat := toNI hp.1
    obtain ⟨⟨c1, c2, c3⟩, c4, c5, c6, c7⟩ := cnt_in hW (by omega) hj hp.2.2
    obtain ⟨s1, s2, s3, s4⟩ := sha_in (P := pd (σ 300)) hW hj hp.2.2 rfl
    obtain ⟨hRC, hRK⟩ := hR.2.2.2.2 _ hj
    obtain ⟨⟨a01, a02, a03, a05, a06, a07, a09, a08⟩, _⟩ := hRC.2 hp.2.2
    by_cases ha : (0 : Int32) ≤ a2 ∧ a2 ≤ 8
    · obtain ⟨z, D, P, hf, hD, hP⟩ := find_T hI
      have u300 : wrow (wrow (wr σ 299 0 0) 304 D) 305 P 300 = σ 300 := by rw [wrow_m (by decide), wrow_m (by decide), thr300]
      have u305 : wrow (wrow (wr σ 299 0 0) 304 D) 305 P 305 = P := wrow_h
      have cn : ∀ (k p : Nat) (kk : Int32), kk.toInt = k → k < 27 → p = 163 + 27 * a1.toInt.toNat + k → f_M_client0 299 a1 kk (wrow (wrow (wr σ 299 0 0) 304 D) 305 P) = some (σ 300 p, wrow (wrow (wr σ 299 0 0) 304 D) 305 P) := fun k p kk hk hk2 hpp => by
        have := cli_n (τ := wrow (wrow (wr σ 299 0 0) 304 D) 305 P) (i := a1.toInt.toNat) hk hj hk2
        rw [u300, ← e1] at this
        rw [this, hpp]
      have hst := stored_M (τ := wrow (wrow (wr σ 299 0 0) 304 D) 305 P) (c := a1) (by rw [u300]; exact hW.1.2.2.2.2.1)
      rw [u300] at hst
      have hsx := stored_X (c := a1) hW hR
      have hib : ib (σ 300 (164 + 27 * a1.toInt.toNat)) 8 := by rw [c3]; exact ib_nI (by omega) (by decide)
      have hcl : (σ 300 (164 + 27 * a1.toInt.toNat)).toNatClampNeg = (σ 300 (164 + 27 * a1.toInt.toNat)).toInt.toNat := rfl
      have hPf := hP _ c2
      have hz1 : ¬ pd (σ 300) (σ 300 (164 + 27 * a1.toInt.toNat)).toInt.toNat = 0 := fun e => by rw [e, z0T] at s1; omega
      have e4 : σ (0 + 1 + 3 + (23 + 2 * a1.toInt.toNat)) 4 = shaS (pd (σ 300)) (σ 300) a1.toInt.toNat := by
        rw [tE, s2]
        exact hRK hp.2.2
      have ha2 := inR.mp ha
      rw [z0T, show (8 : Int32).toInt = 8 by decide] at ha2
      rcases (by omega : a2.toInt = 0 ∨ a2.toInt = 1 ∨ a2.toInt = 2 ∨ a2.toInt = 3 ∨ a2.toInt = 4 ∨ a2.toInt = 5 ∨ a2.toInt = 6 ∨ a2.toInt = 7 ∨ a2.toInt = 8) with h | h | h | h | h | h | h | h | h
      · have e : a2 = 0 := by rw [tE, h]; rfl
        subst e
        refine lookF (D := D) (P := P) hI (σ 300 (164 + 27 * a1.toInt.toNat)) ?_ ?_
        · skip
          unfold f_X_client
          rw [bd_eq hx1, oe_some, if_pos rfl]
          exact congrArg (fun v => some (v, σ)) a01
        · skip
          unfold f_M_client
          rw [lt_eq, bd_eq hm1, if_neg i1n, isIn, bd_some, if_pos ha, if_neg i1n, bd_eq hf, if_pos rfl, bd_eq (cn 1 (164 + 27 * a1.toInt.toNat) 1 (by decide) (by decide) (by omega))]
      · have e : a2 = 1 := by rw [tE, h]; rfl
        subst e
        refine lookF (D := D) (P := P) hI (σ 300 (165 + 27 * a1.toInt.toNat)) ?_ ?_
        · skip
          unfold f_X_client
          rw [bd_eq hx1, oe_some, if_neg (show ¬ (1 : Int32) = 0 by decide), if_pos rfl]
          exact congrArg (fun v => some (v, σ)) a02
        · skip
          unfold f_M_client
          rw [lt_eq, bd_eq hm1, if_neg i1n, isIn, bd_some, if_pos ha, if_neg i1n, bd_eq hf, if_neg (show ¬ (1 : Int32) = 0 by decide), if_pos rfl, bd_eq (cn 2 (165 + 27 * a1.toInt.toNat) 2 (by decide) (by decide) (by omega))]
      · have e : a2 = 2 := by rw [tE, h]; rfl
        subst e
        refine lookF (D := D) (P := P) hI (σ 300 (166 + 27 * a1.toInt.toNat)) ?_ ?_
        · skip
          unfold f_X_client
          rw [bd_eq hx1, oe_some, if_neg (show ¬ (2 : Int32) = 0 by decide), if_neg (show ¬ (2 : Int32) = 1 by decide), if_pos rfl]
          exact congrArg (fun v => some (v, σ)) a03
        · skip
          unfold f_M_client
          rw [lt_eq, bd_eq hm1, if_neg i1n, isIn, bd_some, if_pos ha, if_neg i1n, bd_eq hf, if_neg (show ¬ (2 : Int32) = 0 by decide), if_neg (show ¬ (2 : Int32) = 1 by decide), if_pos rfl, bd_eq (cn 3 (166 + 27 * a1.toInt.toNat) 3 (by decide) (by decide) (by omega))]
      · have e : a2 = 3 := by rw [tE, h]; rfl
        subst e
        refine lookF (D := D) (P := P) hI (shaS (pd (σ 300)) (σ 300) a1.toInt.toNat) ?_ ?_
        · skip
          unfold f_X_client
          rw [bd_eq hx1, oe_some, if_neg (show ¬ (3 : Int32) = 0 by decide), if_neg (show ¬ (3 : Int32) = 1 by decide), if_neg (show ¬ (3 : Int32) = 2 by decide), if_pos rfl, e4]
        · skip
          unfold f_M_client
          rw [lt_eq, bd_eq hm1, if_neg i1n, isIn, bd_some, if_pos ha, if_neg i1n, bd_eq hf, if_neg (show ¬ (3 : Int32) = 0 by decide), if_neg (show ¬ (3 : Int32) = 1 by decide), if_neg (show ¬ (3 : Int32) = 2 by decide), if_pos rfl, bd_eq (cn 2 (165 + 27 * a1.toInt.toNat) 2 (by decide) (by decide) (by omega)), bd_eq (cn 1 (164 + 27 * a1.toInt.toNat) 1 (by decide) (by decide) (by omega)), if_pos hib, hcl]
          simp only [Nat.reduceAdd]
          rw [u305, hPf, if_neg hz1]
          rfl
      · have e : a2 = 4 := by rw [tE, h]; rfl
        subst e
        refine lookF (D := D) (P := P) hI (stF (σ 300) a1 (σ 300 3).toInt.toNat) ?_ ?_
        · skip
          unfold f_X_client
          rw [bd_eq hx1, oe_some, if_neg (show ¬ (4 : Int32) = 0 by decide), if_neg (show ¬ (4 : Int32) = 1 by decide), if_neg (show ¬ (4 : Int32) = 2 by decide), if_neg (show ¬ (4 : Int32) = 3 by decide), if_pos rfl]
          simp only [Nat.zero_add]
          rw [bd_eq hsx]
        · skip
          unfold f_M_client
          rw [lt_eq, bd_eq hm1, if_neg i1n, isIn, bd_some, if_pos ha, if_neg i1n, bd_eq hf, if_neg (show ¬ (4 : Int32) = 0 by decide), if_neg (show ¬ (4 : Int32) = 1 by decide), if_neg (show ¬ (4 : Int32) = 2 by decide), if_neg (show ¬ (4 : Int32) = 3 by decide), if_pos rfl, bd_eq hst]
      · have e : a2 = 5 := by rw [tE, h]; rfl
        subst e
        refine lookF (D := D) (P := P) hI (σ 300 (168 + 27 * a1.toInt.toNat)) ?_ ?_
        · skip
          unfold f_X_client
          rw [bd_eq hx1, oe_some, if_neg (show ¬ (5 : Int32) = 0 by decide), if_neg (show ¬ (5 : Int32) = 1 by decide), if_neg (show ¬ (5 : Int32) = 2 by decide), if_neg (show ¬ (5 : Int32) = 3 by decide), if_neg (show ¬ (5 : Int32) = 4 by decide), if_pos rfl]
          exact congrArg (fun v => some (v, σ)) a06
        · skip
          unfold f_M_client
          rw [lt_eq, bd_eq hm1, if_neg i1n, isIn, bd_some, if_pos ha, if_neg i1n, bd_eq hf, if_neg (show ¬ (5 : Int32) = 0 by decide), if_neg (show ¬ (5 : Int32) = 1 by decide), if_neg (show ¬ (5 : Int32) = 2 by decide), if_neg (show ¬ (5 : Int32) = 3 by decide), if_neg (show ¬ (5 : Int32) = 4 by decide), if_pos rfl, bd_eq (cn 5 (168 + 27 * a1.toInt.toNat) 5 (by decide) (by decide) (by omega))]
      · have e : a2 = 6 := by rw [tE, h]; rfl
        subst e
        refine lookF (D := D) (P := P) hI (σ 300 (169 + 27 * a1.toInt.toNat)) ?_ ?_
        · skip
          unfold f_X_client
          rw [bd_eq hx1, oe_some, if_neg (show ¬ (6 : Int32) = 0 by decide), if_neg (show ¬ (6 : Int32) = 1 by decide), if_neg (show ¬ (6 : Int32) = 2 by decide), if_neg (show ¬ (6 : Int32) = 3 by decide), if_neg (show ¬ (6 : Int32) = 4 by decide), if_neg (show ¬ (6 : Int32) = 5 by decide), if_pos rfl]
          exact congrArg (fun v => some (v, σ)) a07
        · skip
          unfold f_M_client
          rw [lt_eq, bd_eq hm1, if_neg i1n, isIn, bd_some, if_pos ha, if_neg i1n, bd_eq hf, if_neg (show ¬ (6 : Int32) = 0 by decide), if_neg (show ¬ (6 : Int32) = 1 by decide), if_neg (show ¬ (6 : Int32) = 2 by decide), if_neg (show ¬ (6 : Int32) = 3 by decide), if_neg (show ¬ (6 : Int32) = 4 by decide), if_neg (show ¬ (6 : Int32) = 5 by decide), if_pos rfl, bd_eq (cn 6 (169 + 27 * a1.toInt.toNat) 6 (by decide) (by decide) (by omega))]
      · have e : a2 = 7 := by rw [tE, h]; rfl
        subst e
        refine lookF (D := D) (P := P) hI (if σ 300 (168 + 27 * a1.toInt.toNat) = 0 then -9 else σ 300 (170 + 27 * a1.toInt.toNat)) ?_ ?_
        · skip
          unfold f_X_client
          rw [bd_eq hx1, oe_some, if_neg (show ¬ (7 : Int32) = 0 by decide), if_neg (show ¬ (7 : Int32) = 1 by decide), if_neg (show ¬ (7 : Int32) = 2 by decide), if_neg (show ¬ (7 : Int32) = 3 by decide), if_neg (show ¬ (7 : Int32) = 4 by decide), if_neg (show ¬ (7 : Int32) = 5 by decide), if_neg (show ¬ (7 : Int32) = 6 by decide), if_pos rfl]
          exact congrArg (fun v => some (v, σ)) a08
        · skip
          unfold f_M_client
          rw [lt_eq, bd_eq hm1, if_neg i1n, isIn, bd_some, if_pos ha, if_neg i1n, bd_eq hf, if_neg (show ¬ (7 : Int32) = 0 by decide), if_neg (show ¬ (7 : Int32) = 1 by decide), if_neg (show ¬ (7 : Int32) = 2 by decide), if_neg (show ¬ (7 : Int32) = 3 by decide), if_neg (show ¬ (7 : Int32) = 4 by decide), if_neg (show ¬ (7 : Int32) = 5 by decide), if_neg (show ¬ (7 : Int32) = 6 by decide), if_pos rfl, bd_eq (cn 5 (168 + 27 * a1.toInt.toNat) 5 (by decide) (by decide) (by omega)), bd_eq (cn 7 (170 + 27 * a1.toInt.toNat) 7 (by decide) (by decide) (by omega))]
          split <;> rfl
      · have e : a2 = 8 := by rw [tE, h]; rfl
        subst e
        refine lookF (D := D) (P := P) hI (σ 300 (171 + 27 * a1.toInt.toNat)) ?_ ?_
        · skip
          unfold f_X_client
          rw [bd_eq hx1, oe_some, if_neg (show ¬ (8 : Int32) = 0 by decide), if_neg (show ¬ (8 : Int32) = 1 by decide), if_neg (show ¬ (8 : Int32) = 2 by decide), if_neg (show ¬ (8 : Int32) = 3 by decide), if_neg (show ¬ (8 : Int32) = 4 by decide), if_neg (show ¬ (8 : Int32) = 5 by decide), if_neg (show ¬ (8 : Int32) = 6 by decide), if_neg (show ¬ (8 : Int32) = 7 by decide), if_pos rfl]
          exact congrArg (fun v => some (v, σ)) a09
        · skip
          unfold f_M_client
          rw [lt_eq, bd_eq hm1, if_neg i1n, isIn, bd_some, if_pos ha, if_neg i1n, bd_eq hf, if_neg (show ¬ (8 : Int32) = 0 by decide), if_neg (show ¬ (8 : Int32) = 1 by decide), if_neg (show ¬ (8 : Int32) = 2 by decide), if_neg (show ¬ (8 : Int32) = 3 by decide), if_neg (show ¬ (8 : Int32) = 4 by decide), if_neg (show ¬ (8 : Int32) = 5 by decide), if_neg (show ¬ (8 : Int32) = 6 by decide), if_neg (show ¬ (8 : Int32) = 7 by decide), bd_eq (cn 8 (171 + 27 * a1.toInt.toNat) 8 (by decide) (by decide) (by omega))]
    · have hk : ∀ k : Nat, k ≤ 8 → ¬ a2 = nI k := fun k hk e => ha (by
        rw [e]
        exact inR.mpr ⟨by rw [z0T, nI_toInt (by omega)]; omega, by rw [nI_toInt (by omega)]; show (k : Int) ≤ 8; omega⟩)
      refine look hI (-1) ?_ ?_
      · unfold f_X_client
        rw [bd_eq hx1, oe_some, if_neg (show ¬ a2 = 0 from hk 0 (by decide)), if_neg (show ¬ a2 = 1 from hk 1 (by decide)), if_neg (show ¬ a2 = 2 from hk 2 (by decide)), if_neg (show ¬ a2 = 3 from hk 3 (by decide)), if_neg (show ¬ a2 = 4 from hk 4 (by decide)), if_neg (show ¬ a2 = 5 from hk 5 (by decide)), if_neg (show ¬ a2 = 6 from hk 6 (by decide)), if_neg (show ¬ a2 = 7 from hk 7 (by decide)), if_neg (show ¬ a2 = 8 from hk 8 (by decide))]
      · unfold f_M_client
        rw [lt_eq, bd_eq hm1, if_neg i1n, isIn, bd_some, if_neg ha, if_pos rfl]
  · rw [if_neg hp] at hx1 hm1
    refine look hI (-1) ?_ ?_
    · unfold f_X_client
      rw [bd_eq hx1, oe_none]
    · unfold f_M_client
      rw [lt_eq, bd_eq hm1, if_pos rfl]
theorem s_delivered (a1 a2 a3 : Int32) : Same (f_X_delivered 0 a1 a2 a3) (f_M_delivered 299 a1 a2 a3) := by
  intro σ hI
  obtain ⟨hW, hle, hR⟩ := hI.1
  have hx1 := clientAt_c (p := a1) hW hR
  have hm1 := isClient_s (τ := wr σ 299 0 0) (p := a1)
  rw [thr300] at hm1
  have h8 := nS_le hW.1
  have h0n := hW.1.1
  by_cases hp : 0 ≤ a1.toInt ∧ a1.toInt < 8 ∧ σ 300 (163 + 27 * a1.toInt.toNat) = 1
  · rw [if_pos hp] at hx1 hm1
    have hj : a1.toInt.toNat < 8 := by omega
    have e1 : a1 = nI a1.toInt.toNat := toNI hp.1
    obtain ⟨⟨c1, c2, c3⟩, c4, c5, c6, c7⟩ := cnt_in hW (by omega) hj hp.2.2
    have h3b := hW.1.2.2.2.2.1
    obtain ⟨hRC, hRK⟩ := hR.2.2.2.2 _ hj
    obtain ⟨⟨a01, a02, a03, a05, a06, a07, a09, a08⟩, al⟩ := hRC.2 hp.2.2
    by_cases h2 : (0 : Int32) ≤ a2 ∧ a2 ≤ 5
    · by_cases h3 : (0 : Int32) ≤ a3 ∧ a3 ≤ 2
      · have h2' := inR.mp h2
        have h3' := inR.mp h3
        rw [z0T, show (5 : Int32).toInt = 5 by decide] at h2'
        rw [z0T, show (2 : Int32).toInt = 2 by decide] at h3'
        have e2 : a2 = nI a2.toInt.toNat := toNI h2'.1
        have e3 : a3 = nI a3.toInt.toNat := toNI h3'.1
        have cn : ∀ (k p : Nat) (kk : Int32), kk.toInt = k → k < 27 → p = 163 + 27 * a1.toInt.toNat + k → f_M_client0 299 a1 kk (wr σ 299 0 0) = some (σ 300 p, wr σ 299 0 0) := fun k p kk hk hk2 hpp => by
          have := cli_n (τ := wr σ 299 0 0) (i := a1.toInt.toNat) hk hj hk2
          rw [thr300, ← e1] at this
          rw [this, hpp]
        have eD : σ 300 (168 + 27 * a1.toInt.toNat) = nI (σ 300 (168 + 27 * a1.toInt.toNat)).toInt.toNat := toNI c7.1
        by_cases hc : σ 300 (168 + 27 * a1.toInt.toNat) ≤ a2
        · refine look hI (-9) ?_ ?_
          · unfold f_X_delivered f_Cli_recalled
            rw [bd_eq hx1, oe_some, isW, bd_some, if_pos h2, if_neg i1n, isW, bd_some, if_pos h3, if_neg i1n]
            rw [a06, if_pos hc, bd_some]
          · unfold f_M_delivered
            rw [lt_eq, bd_eq hm1, if_neg i1n, isIn, bd_some, if_pos h2, if_neg i1n, isIn, bd_some, if_pos h3, if_neg i1n, bd_eq (cn 5 (168 + 27 * a1.toInt.toNat) 5 (by decide) (by decide) (by omega)), if_pos hc]
        · have hc2 := hc
          rw [Int32.le_iff_toInt_le] at hc2
          unfold gI at c7 h3b hle
          have hal := al a2.toInt.toNat a3.toInt.toNat (by omega) (by unfold gI; omega) (by omega)
          unfold gI at hal
          have hdn : (σ 300 (168 + 27 * a1.toInt.toNat)).toInt.toNat < 1000000 := by omega
          have hda : a2.toInt.toNat < (σ 300 (168 + 27 * a1.toInt.toNat)).toInt.toNat := by omega
          generalize hd : (σ 300 (168 + 27 * a1.toInt.toNat)).toInt.toNat = d at *
          have hm6 : (d - 1 - a2.toInt.toNat) % 6 < 6 := Nat.mod_lt _ (by decide)
          refine look hI (σ 300 (172 + 27 * a1.toInt.toNat + 3 * a2.toInt.toNat + a3.toInt.toNat)) ?_ ?_
          · have hfm : f_Mat_floorMod ((σ 300 (168 + 27 * a1.toInt.toNat) - 1) - a2) 6 σ = some (nI ((d - 1 - a2.toInt.toNat) % 6), σ) := by
              rw [eD, e2, nI_toInt (by omega), show (((a2.toInt.toNat : Nat) : Int).toNat) = a2.toInt.toNat from rfl, show nI d - 1 = nI (d - 1) from pk_sub (b := 1) (by omega), pk_sub (by omega)]
              exact fmod_n (d := 6) (by omega) (by decide) (by decide)
            have hidx : nI ((d - 1 - a2.toInt.toNat) % 6) * 3 + a3 = nI ((d - 1 - a2.toInt.toNat) % 6 * 3 + a3.toInt.toNat) := by
              rw [nI_mL, e3, nI_toInt (by omega), show (((a3.toInt.toNat : Nat) : Int).toNat) = a3.toInt.toNat from rfl, nI_add]
            have h5' : (0 : Int32) ≤ a2 ∧ a2 ≤ 5 := h2
            unfold f_X_delivered f_Cli_recalled
            rw [bd_eq hx1, oe_some, isW, bd_some, if_pos h2, if_neg i1n, isW, bd_some, if_pos h3, if_neg i1n]
            rw [a06, if_neg hc, isW, bd_some, if_pos h2, if_neg i1n, isW, bd_some, if_pos h3, if_neg i1n, a06, bd_eq hfm, hidx, if_pos (ib_nI (by omega) (by decide)), nI_clamp (by omega), bd_some, hal]
          · unfold f_M_delivered
            have hk : ((9 : Int32) + (3 : Int32) * a2) + a3 = nI (9 + 3 * a2.toInt.toNat + a3.toInt.toNat) := by
              rw [e2, e3, nI_toInt (by omega), nI_toInt (by omega), show (((a2.toInt.toNat : Nat) : Int).toNat) = a2.toInt.toNat from rfl, show (((a3.toInt.toNat : Nat) : Int).toNat) = a3.toInt.toNat from rfl, nI_Lm, nI_La, nI_add]
            rw [lt_eq, bd_eq hm1, if_neg i1n, isIn, bd_some, if_pos h2, if_neg i1n, isIn, bd_some, if_pos h3, if_neg i1n, bd_eq (cn 5 (168 + 27 * a1.toInt.toNat) 5 (by decide) (by decide) (by omega)), if_neg hc, hk, bd_eq (cn (9 + 3 * a2.toInt.toNat + a3.toInt.toNat) (172 + 27 * a1.toInt.toNat + 3 * a2.toInt.toNat + a3.toInt.toNat) _ (nI_toInt (by omega)) (by omega) (by omega))]
      · refine look hI (-1) ?_ ?_
        · unfold f_X_delivered
          rw [bd_eq hx1, oe_some, isW, bd_some, if_pos h2, if_neg i1n, isW, bd_some, if_neg h3, if_pos rfl]
        · unfold f_M_delivered
          rw [lt_eq, bd_eq hm1, if_neg i1n, isIn, bd_some, if_pos h2, if_neg i1n, isIn, bd_some, if_neg h3, if_pos rfl]
    · refine look hI (-1) ?_ ?_
      · unfold f_X_delivered
        rw [bd_eq hx1, oe_some, isW, bd_some, if_neg h2, if_pos rfl]
      · unfold f_M_delivered
        rw [lt_eq, bd_eq hm1, if_neg i1n, isIn, bd_some, if_neg h2, if_pos rfl]
  · rw [if_neg hp] at hx1 hm1
    refine look hI (-1) ?_ ?_
    · unfold f_X_delivered
      rw [bd_eq hx1, oe_none]
    · unfold f_M_delivered
      rw [lt_eq, bd_eq hm1, if_pos rfl]
def ndF (S : Nat → Int32) : Nat → Int32
  | 0 => -9
  | e + 1 => if e = 0 then dlE S 0 else if ndF S e ≤ dlE S e then ndF S e else dlE S e
theorem dl_X {σ : Mem} {q e : Nat} {S : Nat → Int32} {tS tC : Nat → Int} {b : Int} (hW : WX S tS tC b) (hR : RH σ q S) (he : e < (S 3).toInt.toNat) : f_Hub_deadlineOf q (nI e) σ = some (dlE S e, σ) := by
  have h3 := hW.1.2.2.2.2.1
  have hRE := hR.2.2.1
  obtain ⟨i1, i2, i3, i4, i5⟩ := ent_in hW he
  have sz : ¬ (σ (q + 8) 0).toInt ≤ (e : Int) := by rw [hRE.1]; omega
  have pe : ∀ p : Nat, p < 3 → σ (q + 8 + 1) (3 * e + p) = S (391 + 3 * e + p) := fun p hp => hRE.2 e p (by unfold gI at h3 ⊢; omega) hp
  have p0 : f_Sto_part (q + 8) (nI e) 0 σ = some (nI (eCl S e), σ) := by
    rw [part_s e 0 (nI_toInt (by omega)) z0T i1 (by decide), if_neg sz, pe 0 (by decide), ← i2]; rfl
  have p1 : f_Sto_part (q + 8) (nI e) 1 σ = some (S (392 + 3 * e), σ) := by
    rw [part_s e 1 (nI_toInt (by omega)) (by decide) i1 (by decide), if_neg sz, pe 1 (by decide), show 391 + 3 * e + 1 = 392 + 3 * e by omega]
  have hc0 := (hR.2.2.2.2 _ i3).1
  have hca : f_Hub_clientAt q (nI (eCl S e)) σ = some (some (q + 3 + (23 + 2 * eCl S e)), σ) := by
    rw [clientAt_s (eCl S e) (nI_toInt (by omega)) i3, hc0.1, i4, if_neg (by decide)]
  have a3 := (hc0.2 i4).1.2.2.1
  unfold f_Hub_deadlineOf
  rw [bd_eq p0, bd_eq hca, oe_some, lt_eq, bd_eq p1, a3]
  rfl
theorem nd_X {σ : Mem} {q : Nat} {S : Nat → Int32} {tS tC : Nat → Int} {b : Int} (hW : WX S tS tC b) (hR : RH σ q S) : f_Hub_earliestDeadline q σ = some (ndF S (S 3).toInt.toNat, σ) := by
  have h3 := hW.1.2.2.2.2.1
  have e3 : S 3 = nI (S 3).toInt.toNat := toNI h3.1
  have hn : (S 3).toInt.toNat ≤ 30 := by unfold gI at h3; omega
  have hRE := hR.2.2.1
  unfold f_Hub_earliestDeadline
  rw [hRE.1]
  by_cases h0 : S 3 = 0
  · rw [if_pos h0, h0]
    rfl
  · have hpos : 1 ≤ (S 3).toInt.toNat := by
      unfold gI at h3
      rw [tE, z0T] at h0
      omega
    rw [if_neg h0, bd_eq (show f_Hub_deadlineOf q 0 σ = some (dlE S 0, σ) from dl_X (e := 0) hW hR (by omega))]
    obtain ⟨a, σ', e, ha, hs⟩ := loopA (fun n a x τ => L_Hub_earliestDeadline_21 q (fun z7 σ8 => some (z7, σ8)) n a (x + 1) τ) (fun z7 σ8 => some (z7, σ8)) ((S 3).toInt.toNat - 1) (fun j a τ => a = ndF S (j + 1) ∧ τ = σ)
      (fun n a τ hI => by
        obtain ⟨_, rfl⟩ := hI
        show (if τ (q + 8) 0 ≤ nI ((S 3).toInt.toNat - 1) + 1 then _ else _) = _
        rw [hRE.1, ← nI_succ, show (S 3).toInt.toNat - 1 + 1 = (S 3).toInt.toNat by omega, ← e3, if_pos (by rw [Int32.le_iff_toInt_le]; omega)])
      (fun n j a τ hj hI => by
        obtain ⟨rfl, rfl⟩ := hI
        refine ⟨ndF S (j + 1 + 1), τ, ?_, rfl, rfl⟩
        show (if τ (q + 8) 0 ≤ nI j + 1 then _ else _) = L_Hub_earliestDeadline_21 q _ n (if j + 1 = 0 then dlE S 0 else if ndF S (j + 1) ≤ dlE S (j + 1) then ndF S (j + 1) else dlE S (j + 1)) (nI (j + 1) + 1) τ
        rw [hRE.1, ← nI_succ, if_neg (by rw [e3]; exact nI_ge (show j + 1 < (S 3).toInt.toNat by omega) (by omega)), bd_eq (dl_X hW hR (by omega)), bd_eq min_s, if_neg (show ¬ j + 1 = 0 by omega)]
        by_cases hc : ndF S (j + 1) ≤ dlE S (j + 1)
        · rw [if_pos hc, if_neg (by rw [Int32.le_iff_toInt_le] at hc; rw [Int32.lt_iff_toInt_lt]; omega)]
        · rw [if_neg hc, if_pos (by rw [Int32.le_iff_toInt_le] at hc; rw [Int32.lt_iff_toInt_lt]; omega)]) ((S 3).toInt.toNat - 1) 0 FU (dlE S 0) σ (by omega) (by show _ < 4096; omega) ⟨rfl, rfl⟩
    refine Eq.trans e ?_
    rw [ha, hs, show (S 3).toInt.toNat - 1 + 1 = (S 3).toInt.toNat by omega]
theorem nd_M {τ : Mem} {tS tC : Nat → Int} {b : Int} (hW : WX (τ 300) tS tC b) : (L_M_nextDeadline_10 299 (fun z9 σ10 => some (z9, σ10)) FU (-9 : Int32) (0 : Int32) τ) = some (ndF (τ 300) (τ 300 3).toInt.toNat, τ) := by
  have h3 := hW.1.2.2.2.2.1
  have e3 : τ 300 3 = nI (τ 300 3).toInt.toNat := toNI h3.1
  have hn : (τ 300 3).toInt.toNat ≤ 30 := by unfold gI at h3; omega
  obtain ⟨a, σ', e, ha, hs⟩ := loopA (L_M_nextDeadline_10 299 (fun z9 σ10 => some (z9, σ10))) (fun z9 σ10 => some (z9, σ10)) (τ 300 3).toInt.toNat (fun j a σ => a = ndF (τ 300) j ∧ σ = τ)
    (fun n a σ hI => by
      obtain ⟨_, rfl⟩ := hI
      show (if σ 300 3 ≤ nI (σ 300 3).toInt.toNat then _ else _) = _
      rw [← e3, if_pos (by rw [Int32.le_iff_toInt_le]; omega)])
    (fun n j a σ hj hI => by
      obtain ⟨rfl, rfl⟩ := hI
      refine ⟨ndF (σ 300) (j + 1), σ, ?_, rfl, rfl⟩
      obtain ⟨i1, i2, i3, i4, i5⟩ := ent_in hW hj
      have b0 : ∀ g : Int32 → Mem → Option (Int32 × Mem), bd (f_M_entryPart 299 (nI j) 0 σ) g = g (nI (eCl (σ 300) j)) σ := bd_eq (by
        rw [entryPart_s j 0 (nI_toInt (by omega)) z0T i1 (by decide), ← i2]; rfl)
      have b1 : ∀ g : Int32 → Mem → Option (Int32 × Mem), bd (f_M_entryPart 299 (nI j) 1 σ) g = g (σ 300 (392 + 3 * j)) σ := bd_eq (by
        rw [entryPart_s j 1 (nI_toInt (by omega)) (by decide) i1 (by decide), show 391 + 3 * j + 1 = 392 + 3 * j by omega])
      have b3 := fun g : Int32 → Mem → Option (Int32 × Mem) => bcli (τ := σ) (i := eCl (σ 300) j) (p := 166 + 27 * eCl (σ 300) j) 3 3 (by decide) i3 (by decide) (by omega) g
      show (if σ 300 3 ≤ nI j then _ else _) = L_M_nextDeadline_10 299 _ n (if j = 0 then dlE (σ 300) 0 else if ndF (σ 300) j ≤ dlE (σ 300) j then ndF (σ 300) j else dlE (σ 300) j) (nI (j + 1)) σ
      rw [if_neg (by rw [e3]; exact nI_ge hj (by omega)), b1, b0, b3, lt_eq, ← nI_succ]
      change (if nI j = 0 then L_M_nextDeadline_10 299 _ n (dlE (σ 300) j) (nI (j + 1)) σ else if ndF (σ 300) j ≤ dlE (σ 300) j then L_M_nextDeadline_10 299 _ n (ndF (σ 300) j) (nI (j + 1)) σ else L_M_nextDeadline_10 299 _ n (dlE (σ 300) j) (nI (j + 1)) σ) = _
      by_cases h0 : j = 0
      · subst h0
        rw [if_pos (show nI 0 = 0 from rfl), if_pos (show (0 : Nat) = 0 from rfl)]
      · rw [if_neg (nI_ne0 (by omega) (by omega)), if_neg h0]
        by_cases hc : ndF (σ 300) j ≤ dlE (σ 300) j
        · rw [if_pos hc, if_pos hc]
        · rw [if_neg hc, if_neg hc]) (τ 300 3).toInt.toNat 0 FU (-9) τ (by omega) (by show _ < 4096; omega) ⟨rfl, rfl⟩
  refine Eq.trans e ?_
  rw [ha, hs]
theorem s_nextDeadline : Same (f_X_nextDeadline 0) (f_M_nextDeadline 299) := by
  intro σ hI
  obtain ⟨hW, hle, hR⟩ := hI.1
  have hm := nd_M (τ := wr σ 299 0 0) (by rw [thr300]; exact hW)
  rw [thr300] at hm
  refine look hI (ndF (σ 300) (σ 300 3).toInt.toNat) ?_ ?_
  · unfold f_X_nextDeadline
    rw [bd_eq (nd_X hW hR)]
  · unfold f_M_nextDeadline
    rw [lt_eq, hm]
