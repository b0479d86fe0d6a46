/-! the calls that look: count, sensor, client, delivered, nextDeadline -/
theorem lookF {fx fm : Mem → Option (Int32 × Mem)} {σ : Mem} {D P : Nat → Int32} (hI : Inv σ) (v : Int32) (hx : fx σ = some (v, σ)) (hm : fm σ = some (v, wrow (wrow (wr σ 299 0 0) 304 D) 305 P)) : ∃ r σ1 σ2, fx σ = some (r, σ1) ∧ fm σ1 = some (r, σ2) ∧ Inv σ2 :=
  ⟨v, σ, _, hx, hm, inv_kp (fun w h1 h2 => by rw [wrow_m (by omega), wrow_m (by omega), wr_other h2]) (by rw [wrow_m (by decide), wrow_m (by decide), wr_m (by decide)]) (by rw [wrow_m (by decide), wrow_m (by decide), wr_m (by decide)]) hI⟩
def cnF (S : Nat → Int32) : Nat → Int32
  | 0 => 0
  | j + 1 => cnF S j + S (163 + 27 * j)
theorem count_X {σ : Mem} {q : Nat} {S : Nat → Int32} {tS tC : Nat → Int} {b : Int} (hW : WX S tS tC b) (hR : RH σ q S) : f_Hub_clientCount q σ = some (cnF S 8, σ) := by
  unfold f_Hub_clientCount
  obtain ⟨a, σ', e, ha, hs⟩ := loopA (L_Hub_clientCount_4 q (fun z4 σ5 => some (z4, σ5))) (fun z4 σ5 => some (z4, σ5)) 8 (fun j a τ => a = cnF S j ∧ τ = σ)
    (fun n a τ _ => by show (if (8 : Int32) ≤ nI 8 then _ else _) = _; rw [if_pos (by decide)])
    (fun n j a τ hj hI => by
      obtain ⟨rfl, rfl⟩ := hI
      refine ⟨_, τ, ?_, rfl, rfl⟩
      show (if (8 : Int32) ≤ nI j then _ else _) = L_Hub_clientCount_4 q _ n (cnF S j + S (163 + 27 * j)) (nI (j + 1)) τ
      rw [if_neg (ge8 hj), bd_eq (clientAt_s j (nI_toInt (by omega)) hj), (hR.2.2.2.2 j hj).1.1, ← nI_succ]
      rcases hW.2.2.1 j hj with h | h
      · rw [if_pos h, oe_none, h, Int32.add_zero]
      · rw [if_neg (by rw [h.1]; decide), oe_some, h.1]) 8 0 FU 0 σ rfl (by decide) ⟨rfl, rfl⟩
  refine Eq.trans e ?_
  rw [ha, hs]
theorem count_M {τ : Mem} : f_M_clientMany 299 τ = some (cnF (τ 300) 8, τ) := by
  unfold f_M_clientMany
  obtain ⟨a, σ', e, ha, hs⟩ := loopA (L_M_clientMany_4 299 (fun z4 σ5 => some (z4, σ5))) (fun z4 σ5 => some (z4, σ5)) 8 (fun j a σ => a = cnF (τ 300) j ∧ σ = τ)
    (fun n a σ _ => by show (if (8 : Int32) ≤ nI 8 then _ else _) = _; rw [if_pos (by decide)])
    (fun n j a σ hj hI => by
      obtain ⟨rfl, rfl⟩ := hI
      refine ⟨_, σ, ?_, rfl, rfl⟩
      show (if (8 : Int32) ≤ nI j then _ else _) = L_M_clientMany_4 299 _ n (cnF (σ 300) j + σ 300 (163 + 27 * j)) (nI (j + 1)) σ
      rw [if_neg (ge8 hj), bcli (p := 163 + 27 * j) 0 0 (by decide) hj (by decide) (by omega), lt_eq, ← nI_succ]) 8 0 FU 0 τ rfl (by decide) ⟨rfl, rfl⟩
  refine Eq.trans e ?_
  rw [ha, hs]
theorem s_count (a1 : Int32) : Same (f_X_count 0 a1) (f_M_count 299 a1) := by
  intro σ hI
  obtain ⟨hW, hle, hR⟩ := hI.1
  obtain ⟨⟨b1, b2, b3, b4⟩, ⟨c1, c2, c3⟩, _⟩ := hI.2
  obtain ⟨g0, g1, g2, g3, g4, g5⟩ := hR.1
  have w3 : wr σ 299 0 0 299 3 = σ 299 3 := wr_m (by decide)
  have w5 : wr σ 299 0 0 299 5 = σ 299 5 := wr_m (by decide)
  have hcm := count_M (τ := wr σ 299 0 0)
  rw [thr300] at hcm
  have hcx := count_X hW hR
  by_cases h0 : a1 = 0
  · subst h0
    exact look hI (σ 300 0) (by unfold f_X_count; rw [if_pos rfl]; simp only [Nat.reduceAdd]; rw [g0]) (by unfold f_M_count; rw [lt_eq, if_pos rfl]; simp only [Nat.reduceAdd]; rw [thr300])
  by_cases h1 : a1 = 1
  · subst h1
    exact look hI (σ 300 1) (by unfold f_X_count; rw [if_neg h0, if_pos rfl]; simp only [Nat.reduceAdd]; rw [g4]) (by unfold f_M_count; rw [lt_eq, if_neg h0, if_pos rfl]; simp only [Nat.reduceAdd]; rw [thr300])
  by_cases h2 : a1 = 2
  · subst h2
    exact look hI (cnF (σ 300) 8) (by unfold f_X_count; rw [if_neg h0, if_neg h1, if_pos rfl]; simp only [Nat.reduceAdd]; rw [bd_eq hcx]) (by unfold f_M_count; rw [lt_eq, if_neg h0, if_neg h1, if_pos rfl, bd_eq hcm])
  by_cases h3 : a1 = 3
  · subst h3
    exact look hI (σ 300 2) (by unfold f_X_count; rw [if_neg h0, if_neg h1, if_neg h2, if_pos rfl]; simp only [Nat.reduceAdd]; rw [show σ 5 0 = σ 300 2 from hR.2.1.1]) (by unfold f_M_count; rw [lt_eq, if_neg h0, if_neg h1, if_neg h2, if_pos rfl]; simp only [Nat.reduceAdd]; rw [thr300])
  by_cases h4 : a1 = 4
  · subst h4
    exact look hI (σ 300 3) (by unfold f_X_count; rw [if_neg h0, if_neg h1, if_neg h2, if_neg h3, if_pos rfl]; simp only [Nat.reduceAdd]; rw [show σ 9 0 = σ 300 3 from hR.2.2.1.1]) (by unfold f_M_count; rw [lt_eq, if_neg h0, if_neg h1, if_neg h2, if_neg h3, if_pos rfl]; simp only [Nat.reduceAdd]; rw [thr300])
  by_cases h5 : a1 = 5
  · subst h5
    exact look hI (σ 300 4) (by unfold f_X_count; rw [if_neg h0, if_neg h1, if_neg h2, if_neg h3, if_neg h4, if_pos rfl]; simp only [Nat.reduceAdd]; rw [g3]) (by unfold f_M_count; rw [lt_eq, if_neg h0, if_neg h1, if_neg h2, if_neg h3, if_neg h4, if_pos rfl]; simp only [Nat.reduceAdd]; rw [thr300])
  by_cases h6 : a1 = 6
  · subst h6
    exact look hI (σ 300 5) (by unfold f_X_count; rw [if_neg h0, if_neg h1, if_neg h2, if_neg h3, if_neg h4, if_neg h5, if_pos rfl]; simp only [Nat.reduceAdd]; rw [g2]) (by unfold f_M_count; rw [lt_eq, if_neg h0, if_neg h1, if_neg h2, if_neg h3, if_neg h4, if_neg h5, if_pos rfl]; simp only [Nat.reduceAdd]; rw [thr300])
  by_cases h7 : a1 = 7
  · subst h7
    exact look hI (σ 300 6) (by unfold f_X_count; rw [if_neg h0, if_neg h1, if_neg h2, if_neg h3, if_neg h4, if_neg h5, if_neg h6, if_pos rfl]; simp only [Nat.reduceAdd]; rw [g1]) (by unfold f_M_count; rw [lt_eq, if_neg h0, if_neg h1, if_neg h2, if_neg h3, if_neg h4, if_neg h5, if_neg h6, if_pos rfl]; simp only [Nat.reduceAdd]; rw [thr300])
  by_cases h8 : a1 = 8
  · subst h8
    exact look hI (σ 85 0) (by unfold f_X_count; rw [if_neg h0, if_neg h1, if_neg h2, if_neg h3, if_neg h4, if_neg h5, if_neg h6, if_neg h7, if_pos rfl]) (by unfold f_M_count; rw [lt_eq, if_neg h0, if_neg h1, if_neg h2, if_neg h3, if_neg h4, if_neg h5, if_neg h6, if_neg h7, if_pos rfl, w3, b3])
  by_cases h9 : a1 = 9
  · subst h9
    exact look hI (σ 297 0) (by unfold f_X_count; rw [if_neg h0, if_neg h1, if_neg h2, if_neg h3, if_neg h4, if_neg h5, if_neg h6, if_neg h7, if_neg h8, if_pos rfl]) (by unfold f_M_count; rw [lt_eq, if_neg h0, if_neg h1, if_neg h2, if_neg h3, if_neg h4, if_neg h5, if_neg h6, if_neg h7, if_neg h8, if_pos rfl, w5, c2])
  exact look hI (-1) (by unfold f_X_count; rw [if_neg h0, if_neg h1, if_neg h2, if_neg h3, if_neg h4, if_neg h5, if_neg h6, if_neg h7, if_neg h8, if_neg h9]) (by unfold f_M_count; rw [lt_eq, if_neg h0, if_neg h1, if_neg h2, if_neg h3, if_neg h4, if_neg h5, if_neg h6, if_neg h7, if_neg h8, if_neg h9])
/-- the reference's find, on a memory whose row is known -/
theorem find_T {σ : Mem} (hI : Inv σ) : ∃ z D P, f_M_find 299 (wr σ 299 0 0) = some (z, wrow (wrow (wr σ 299 0 0) 304 D) 305 P) ∧ (∀ k, k < nS (σ 300) → D k = dm (σ 300) k) ∧ ∀ k, k < nS (σ 300) → P k = pd (σ 300) k := by
  have hW := hI.1.1
  have := find_M (τ := wr σ 299 0 0) (by rw [thr300]; exact CW_of hW) (by rw [thr300]; exact hW.1.2.2.1.1)
  rw [thr300] at this
  exact this
theorem s_sensor (a1 a2 : Int32) : Same (f_X_sensor 0 a1 a2) (f_M_sensor 299 a1 a2) := by
  intro σ hI
  obtain ⟨hW, hle, hR⟩ := hI.1
  have hx1 := sensorAt_c (p := a1) hW.1 hR.1
  have hm1 := isSensor_s (τ := wr σ 299 0 0) (p := a1) (by rw [thr300]; exact hW.1.2.2.1)
  rw [thr300] at hm1
  by_cases hp : 0 ≤ a1.toInt ∧ a1.toInt < gI (σ 300) 1
  · rw [if_pos hp] at hx1 hm1
    have hi : a1.toInt.toNat < nS (σ 300) := by unfold nS; unfold gI at hp; omega
    have h8 := nS_le hW.1
    obtain ⟨hRP, hRR, hRD⟩ := hR.2.2.2.1 _ hi
    have e1 : a1 = nI a1.toInt.toNat := toNI hp.1
    have hs0 := (hW.2.1 _ hi).2.1.1
    by_cases ha : (0 : Int32) ≤ a2 ∧ a2 ≤ 6
    · obtain ⟨z, D, P, hf, hD, hP⟩ := find_T hI
      have u300 : wrow (wrow (wr σ 299 0 0) 304 D) 305 P 300 = σ 300 := by rw [wrow_m (by decide), wrow_m (by decide), thr300]
      have u304 : wrow (wrow (wr σ 299 0 0) 304 D) 305 P 304 = D := by rw [wrow_m (by decide), wrow_h]
      have u305 : wrow (wrow (wr σ 299 0 0) 304 D) 305 P 305 = P := wrow_h
      have hib : ib a1 8 := ⟨hp.1, by have := hW.1.2.2.1; unfold gI at *; omega⟩
      have hcl : a1.toNatClampNeg = a1.toInt.toNat := rfl
      have hsr := source_s (τ := wrow (wrow (wr σ 299 0 0) 304 D) 305 P) (i := a1.toInt.toNat) (by rw [u300]; exact CW_of hW) (by rw [u300]; exact hi)
      rw [u300, ← e1] at hsr
      have sn : ∀ (k p : Nat) (kk : Int32), kk.toInt = k → k < 19 → p = 11 + 19 * a1.toInt.toNat + k → f_M_sensor0 299 a1 kk (wrow (wrow (wr σ 299 0 0) 304 D) 305 P) = some (σ 300 p, wrow (wrow (wr σ 299 0 0) 304 D) 305 P) := fun k p kk hk hk2 hpp => by
        have := sen_n (τ := wrow (wrow (wr σ 299 0 0) 304 D) 305 P) (i := a1.toInt.toNat) hk (by omega) hk2
        rw [u300, ← e1] at this
        rw [this, hpp]
      have hm0 : ∀ g : Int32 → Mem → Option (Int32 × Mem), (bd (f_M_isSensor 299 a1 (wr σ 299 0 0)) g) = g 1 (wr σ 299 0 0) := bd_eq hm1
      have ha2 := inR.mp ha
      rw [z0T, show (6 : Int32).toInt = 6 by decide] at ha2
      have pre : ∀ v, (if σ 300 (18 + 19 * a1.toInt.toNat) ≤ 0 then
        if a2 = 0 then
          bd (f_M_sensor0 299 a1 (0 : Int32) (wrow (wrow (wr σ 299 0 0) 304 D) 305 P)) fun r10 σ11 =>
          some (r10, σ11)
        else
        if a2 = 1 then
          if ib a1 8 then
            some (wrow (wrow (wr σ 299 0 0) 304 D) 305 P (299 + 5) a1.toNatClampNeg, wrow (wrow (wr σ 299 0 0) 304 D) 305 P)
          else none
        else
        if a2 = 2 then
          if ib a1 8 then
            some (wrow (wrow (wr σ 299 0 0) 304 D) 305 P (299 + 6) a1.toNatClampNeg, wrow (wrow (wr σ 299 0 0) 304 D) 305 P)
          else none
        else
        if a2 = 3 then
          bd (f_M_sensor0 299 a1 (7 : Int32) (wrow (wrow (wr σ 299 0 0) 304 D) 305 P)) fun r12 σ13 =>
          some (r12, σ13)
        else
        if a2 = 4 then
          some ((-9 : Int32), wrow (wrow (wr σ 299 0 0) 304 D) 305 P)
        else
        if a2 = 5 then
          some ((-9 : Int32), wrow (wrow (wr σ 299 0 0) 304 D) 305 P)
        else
          bd (f_M_source 299 a1 (wrow (wrow (wr σ 299 0 0) 304 D) 305 P)) fun r14 σ15 =>
          some (r14, σ15)
      else
        if a2 = 0 then
          bd (f_M_sensor0 299 a1 (0 : Int32) (wrow (wrow (wr σ 299 0 0) 304 D) 305 P)) fun r16 σ17 =>
          some (r16, σ17)
        else
        if a2 = 1 then
          if ib a1 8 then
            some (wrow (wrow (wr σ 299 0 0) 304 D) 305 P (299 + 5) a1.toNatClampNeg, wrow (wrow (wr σ 299 0 0) 304 D) 305 P)
          else none
        else
        if a2 = 2 then
          if ib a1 8 then
            some (wrow (wrow (wr σ 299 0 0) 304 D) 305 P (299 + 6) a1.toNatClampNeg, wrow (wrow (wr σ 299 0 0) 304 D) 305 P)
          else none
        else
        if a2 = 3 then
          bd (f_M_sensor0 299 a1 (7 : Int32) (wrow (wrow (wr σ 299 0 0) 304 D) 305 P)) fun r18 σ19 =>
          some (r18, σ19)
        else
        if a2 = 4 then
          bd (f_M_sensor0 299 a1 (8 : Int32) (wrow (wrow (wr σ 299 0 0) 304 D) 305 P)) fun r20 σ21 =>
          some (r20, σ21)
        else
        if a2 = 5 then
          bd (f_M_sensor0 299 a1 (9 : Int32) (wrow (wrow (wr σ 299 0 0) 304 D) 305 P)) fun r22 σ23 =>
          some (r22, σ23)
        else
          bd (f_M_source 299 a1 (wrow (wrow (wr σ 299 0 0) 304 D) 305 P)) fun r24 σ25 =>
          some (r24, σ25)) = some (v, wrow (wrow (wr σ 299 0 0) 304 D) 305 P) → f_M_sensor 299 a1 a2 σ = some (v, wrow (wrow (wr σ 299 0 0) 304 D) 305 P) := fun v h => by
        unfold f_M_sensor
        rw [lt_eq, hm0, if_neg i1n, isIn, bd_some, if_pos ha, if_neg i1n, bd_eq hf, bd_eq (sn 7 (18 + 19 * a1.toInt.toNat) 7 (by decide) (by decide) (by omega))]
        exact h
      have prx : ∀ v, (if a2 = 0 then
      some (σ (0 + 1 + 2 + (8 + 2 * a1.toInt.toNat)) 0, σ)
    else
    if a2 = 1 then
      some (σ (0 + 1 + 2 + (8 + 2 * a1.toInt.toNat)) 10, σ)
    else
    if a2 = 2 then
      some (σ (0 + 1 + 2 + (8 + 2 * a1.toInt.toNat)) 11, σ)
    else
    if a2 = 3 then
      some (σ (0 + 1 + 2 + (8 + 2 * a1.toInt.toNat)) 12, σ)
    else
    if a2 = 4 then
      if (σ (0 + 1 + 2 + (8 + 2 * a1.toInt.toNat)) 12) = 0 then some ((-9 : Int32), σ) else some (σ (0 + 1 + 2 + (8 + 2 * a1.toInt.toNat)) 14, σ)
    else
    if a2 = 5 then
      if (σ (0 + 1 + 2 + (8 + 2 * a1.toInt.toNat)) 12) = 0 then some ((-9 : Int32), σ) else some (σ (0 + 1 + 2 + (8 + 2 * a1.toInt.toNat)) 15, σ)
    else
    if a2 = 6 then
      some (σ (0 + 1 + 2 + (8 + 2 * a1.toInt.toNat)) 9, σ)
    else
      some ((-1 : Int32), σ)) = some (v, σ) → f_X_sensor 0 a1 a2 σ = some (v, σ) := fun v h => by
        unfold f_X_sensor
        rw [bd_eq hx1, oe_some]
        exact h
      have e12 : σ (0 + 1 + 2 + (8 + 2 * a1.toInt.toNat)) 12 = σ 300 (18 + 19 * a1.toInt.toNat) := hRR.1
      have hz : σ 300 (18 + 19 * a1.toInt.toNat) ≤ 0 ↔ σ 300 (18 + 19 * a1.toInt.toNat) = 0 := by
        unfold gI at hs0
        rw [Int32.le_iff_toInt_le, tE, z0T]
        omega
      rcases (by omega : a2.toInt = 0 ∨ a2.toInt = 1 ∨ a2.toInt = 2 ∨ a2.toInt = 3 ∨ a2.toInt = 4 ∨ a2.toInt = 5 ∨ a2.toInt = 6) with h | h | h | h | h | h | h
      · have e : a2 = 0 := by rw [tE, h]; rfl
        subst e
        refine lookF hI (σ 300 (11 + 19 * a1.toInt.toNat)) (prx _ ?_) (pre _ ?_)
        · rw [if_pos rfl]; exact congrArg (fun v => some (v, σ)) hRP.1
        · rw [if_pos rfl, if_pos rfl, bd_eq (sn 0 (11 + 19 * a1.toInt.toNat) 0 (by decide) (by decide) (by omega))]
          split <;> rfl
      · have e : a2 = 1 := by rw [tE, h]; rfl
        subst e
        refine lookF hI (dm (σ 300) a1.toInt.toNat) (prx _ ?_) (pre _ ?_)
        · rw [if_neg (by decide), if_pos rfl]; exact congrArg (fun v => some (v, σ)) hRD.1
        · rw [if_neg (show ¬ (1 : Int32) = 0 by decide), if_neg (show ¬ (1 : Int32) = 0 by decide), if_pos rfl, if_pos rfl, if_pos hib, hcl]
          simp only [Nat.reduceAdd]
          rw [u304, hD _ hi]
          split <;> rfl
      · have e : a2 = 2 := by rw [tE, h]; rfl
        subst e
        refine lookF hI (pd (σ 300) a1.toInt.toNat) (prx _ ?_) (pre _ ?_)
        · rw [if_neg (by decide), if_neg (by decide), if_pos rfl]; exact congrArg (fun v => some (v, σ)) hRD.2
        · rw [if_neg (show ¬ (2 : Int32) = 0 by decide), if_neg (show ¬ (2 : Int32) = 0 by decide), if_neg (show ¬ (2 : Int32) = 1 by decide), if_neg (show ¬ (2 : Int32) = 1 by decide), if_pos rfl, if_pos rfl, if_pos hib, hcl]
          simp only [Nat.reduceAdd]
          rw [u305, hP _ hi]
          split <;> rfl
      · have e : a2 = 3 := by rw [tE, h]; rfl
        subst e
        refine lookF hI (σ 300 (18 + 19 * a1.toInt.toNat)) (prx _ ?_) (pre _ ?_)
        · rw [if_neg (by decide), if_neg (by decide), if_neg (by decide), if_pos rfl, e12]
        · rw [if_neg (show ¬ (3 : Int32) = 0 by decide), if_neg (show ¬ (3 : Int32) = 0 by decide), if_neg (show ¬ (3 : Int32) = 1 by decide), if_neg (show ¬ (3 : Int32) = 1 by decide), if_neg (show ¬ (3 : Int32) = 2 by decide), if_neg (show ¬ (3 : Int32) = 2 by decide), if_pos rfl, if_pos rfl, bd_eq (sn 7 (18 + 19 * a1.toInt.toNat) 7 (by decide) (by decide) (by omega))]
          split <;> rfl
      · have e : a2 = 4 := by rw [tE, h]; rfl
        subst e
        refine lookF hI (if σ 300 (18 + 19 * a1.toInt.toNat) = 0 then -9 else σ 300 (19 + 19 * a1.toInt.toNat)) (prx _ ?_) (pre _ ?_)
        · rw [if_neg (by decide), if_neg (by decide), if_neg (by decide), if_neg (by decide), if_pos rfl, e12]
          by_cases hc : σ 300 (18 + 19 * a1.toInt.toNat) = 0
          · rw [if_pos hc, if_pos hc]
          · rw [if_neg hc, if_neg hc]
            refine congrArg (fun v => some (v, σ)) (hRR.2.1 ?_).1
            unfold gI at hs0 ⊢
            rw [tE, z0T] at hc
            omega
        · rw [if_neg (show ¬ (4 : Int32) = 0 by decide), if_neg (show ¬ (4 : Int32) = 0 by decide), if_neg (show ¬ (4 : Int32) = 1 by decide), if_neg (show ¬ (4 : Int32) = 1 by decide), if_neg (show ¬ (4 : Int32) = 2 by decide), if_neg (show ¬ (4 : Int32) = 2 by decide), if_neg (show ¬ (4 : Int32) = 3 by decide), if_neg (show ¬ (4 : Int32) = 3 by decide), if_pos rfl, if_pos rfl, bd_eq (sn 8 (19 + 19 * a1.toInt.toNat) 8 (by decide) (by decide) (by omega))]
          by_cases hc : σ 300 (18 + 19 * a1.toInt.toNat) = 0
          · rw [if_pos (hz.mpr hc), if_pos hc]
          · rw [if_neg (fun x => hc (hz.mp x)), if_neg hc]
      · have e : a2 = 5 := by rw [tE, h]; rfl
        subst e
        refine lookF hI (if σ 300 (18 + 19 * a1.toInt.toNat) = 0 then -9 else σ 300 (20 + 19 * a1.toInt.toNat)) (prx _ ?_) (pre _ ?_)
        · rw [if_neg (by decide), if_neg (by decide), if_neg (by decide), if_neg (by decide), if_neg (by decide), if_pos rfl, e12]
          by_cases hc : σ 300 (18 + 19 * a1.toInt.toNat) = 0
          · rw [if_pos hc, if_pos hc]
          · rw [if_neg hc, if_neg hc]
            refine congrArg (fun v => some (v, σ)) (hRR.2.1 ?_).2
            unfold gI at hs0 ⊢
            rw [tE, z0T] at hc
            omega
        · rw [if_neg (show ¬ (5 : Int32) = 0 by decide), if_neg (show ¬ (5 : Int32) = 0 by decide), if_neg (show ¬ (5 : Int32) = 1 by decide), if_neg (show ¬ (5 : Int32) = 1 by decide), if_neg (show ¬ (5 : Int32) = 2 by decide), if_neg (show ¬ (5 : Int32) = 2 by decide), if_neg (show ¬ (5 : Int32) = 3 by decide), if_neg (show ¬ (5 : Int32) = 3 by decide), if_neg (show ¬ (5 : Int32) = 4 by decide), if_neg (show ¬ (5 : Int32) = 4 by decide), if_pos rfl, if_pos rfl, bd_eq (sn 9 (20 + 19 * a1.toInt.toNat) 9 (by decide) (by decide) (by omega))]
          by_cases hc : σ 300 (18 + 19 * a1.toInt.toNat) = 0
          · rw [if_pos (hz.mpr hc), if_pos hc]
          · rw [if_neg (fun x => hc (hz.mp x)), if_neg hc]
      · have e : a2 = 6 := by rw [tE, h]; rfl
        subst e
        refine lookF hI (nI (src (σ 300) a1.toInt.toNat)) (prx _ ?_) (pre _ ?_)
        · rw [if_neg (by decide), if_neg (by decide), if_neg (by decide), if_neg (by decide), if_neg (by decide), if_neg (by decide), if_pos rfl]
          exact congrArg (fun v => some (v, σ)) hRP.2.2.2.1
        · rw [if_neg (show ¬ (6 : Int32) = 0 by decide), if_neg (show ¬ (6 : Int32) = 0 by decide), if_neg (show ¬ (6 : Int32) = 1 by decide), if_neg (show ¬ (6 : Int32) = 1 by decide), if_neg (show ¬ (6 : Int32) = 2 by decide), if_neg (show ¬ (6 : Int32) = 2 by decide), if_neg (show ¬ (6 : Int32) = 3 by decide), if_neg (show ¬ (6 : Int32) = 3 by decide), if_neg (show ¬ (6 : Int32) = 4 by decide), if_neg (show ¬ (6 : Int32) = 4 by decide), if_neg (show ¬ (6 : Int32) = 5 by decide), if_neg (show ¬ (6 : Int32) = 5 by decide), bd_eq hsr]
          split <;> rfl
    · have hk : ∀ k : Nat, k ≤ 6 → ¬ a2 = nI k := fun k hk e => ha (by
        rw [e]
        exact inR.mpr ⟨by rw [z0T, nI_toInt (by omega)]; omega, by rw [nI_toInt (by omega)]; show (k : Int) ≤ 6; omega⟩)
      refine look hI (-1) ?_ ?_
      · unfold f_X_sensor
        rw [bd_eq hx1, oe_some, if_neg (show ¬ a2 = 0 from hk 0 (by decide)), if_neg (show ¬ a2 = 1 from hk 1 (by decide)), if_neg (show ¬ a2 = 2 from hk 2 (by decide)), if_neg (show ¬ a2 = 3 from hk 3 (by decide)), if_neg (show ¬ a2 = 4 from hk 4 (by decide)), if_neg (show ¬ a2 = 5 from hk 5 (by decide)), if_neg (show ¬ a2 = 6 from hk 6 (by decide))]
      · unfold f_M_sensor
        rw [lt_eq, bd_eq hm1, if_neg i1n, isIn, bd_some, if_neg ha, if_pos rfl]
  · rw [if_neg hp] at hx1 hm1
    refine look hI (-1) ?_ ?_
    · unfold f_X_sensor
      rw [bd_eq hx1, oe_none]
    · unfold f_M_sensor
      rw [lt_eq, bd_eq hm1, if_pos rfl]
