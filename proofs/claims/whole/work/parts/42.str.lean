/-! the clients' entries of a tick: the row -/
theorem upS_c {f : Nat → Int32} {p k : Nat} {x y : Int32} (h : p ≠ k) : upS (upS f p x) k y = upS (upS f k y) p x := by
  funext j
  by_cases e : j = k
  · rw [upS_h e, upS_m (by omega), upS_h e]
  · rw [upS_m e]
    by_cases e2 : j = p
    · rw [upS_h e2, upS_h e2]
    · rw [upS_m e2, upS_m e2, upS_m e]
theorem shS_up {S : Nat → Int32} {a y p : Nat} {x : Int32} (h : p + 3 ≤ a + y ∨ a + 26 < p) : shS (upS S p x) a y = upS (shS S a y) p x := by
  funext k
  unfold shS upS
  by_cases e : k = p
  · subst e
    rw [if_neg (by omega), if_pos rfl, if_pos rfl]
  · rw [if_neg e, if_neg e]
    by_cases c : a + y < k ∧ k ≤ a + 26
    · rw [if_pos c, if_neg (by omega)]
      exact (if_pos c).symm
    · rw [if_neg c]
      exact (if_neg c).symm
theorem dlvS_up {S : Nat → Int32} {c j : Nat} {st v x : Int32} : dlvS (upS S (167 + 27 * j) x) c st v = upS (dlvS S c st v) (167 + 27 * j) x := by
  unfold dlvS ageS
  simp (disch := omega) only [upS_m]
  rw [upS_c (p := 167 + 27 * j) (by omega), upS_c (p := 167 + 27 * j) (by omega), upS_c (p := 167 + 27 * j) (by omega), shS_up (by omega), upS_c (p := 167 + 27 * j) (by omega), upS_c (p := 167 + 27 * j) (by omega), upS_c (p := 167 + 27 * j) (by omega)]
theorem dlvN_up {S : Nat → Int32} {j : Nat} {x : Int32} (hj : j < 8) : ∀ e, dlvN (upS S (167 + 27 * j) x) e = upS (dlvN S e) (167 + 27 * j) x := by
  intro e
  induction e with
  | zero => rfl
  | succ e ih =>
    show dlvS (dlvN (upS S (167 + 27 * j) x) e) (upS S (167 + 27 * j) x (391 + 3 * e)).toInt.toNat (upS S (167 + 27 * j) x (391 + 3 * e + 1)) (upS S (167 + 27 * j) x (391 + 3 * e + 2)) = upS (dlvS (dlvN S e) (S (391 + 3 * e)).toInt.toNat (S (391 + 3 * e + 1)) (S (391 + 3 * e + 2))) (167 + 27 * j) x
    rw [ih, upS_m (by omega), upS_m (by omega), upS_m (by omega), dlvS_up]
theorem wakeS_up {S : Nat → Int32} {j c : Nat} {x : Int32} (hj : j < 8) (hc : c < 4) : wakeS (upS S (167 + 27 * j) x) c = upS (wakeS S c) (167 + 27 * j) x := by
  unfold wakeS
  rw [upS_m (j := 3) (by omega)]
  by_cases h : S 3 = 0
  · rw [if_pos h, if_pos h]
  · rw [if_neg h, if_neg h]
    simp only []
    rw [dlvN_up hj, upS_m (j := 5) (by omega), upS_m (j := 7 + c) (by omega), upS_c (p := 167 + 27 * j) (by omega), upS_c (p := 167 + 27 * j) (by omega), upS_c (p := 167 + 27 * j) (by omega)]
def wkS (S : Nat → Int32) : Nat → Int32 := if S 3 < S 4 then S else wakeS S 1
def addE (S : Nat → Int32) (j f : Nat) : Nat → Int32 := upS (upS (upS (upS S (391 + 3 * (S 3).toInt.toNat) (nI j)) (392 + 3 * (S 3).toInt.toNat) (S (19 + 19 * f))) (393 + 3 * (S 3).toInt.toNat) (S (20 + 19 * f))) 3 (S 3 + 1)
def shaS (P S : Nat → Int32) (j : Nat) : Int32 := S (165 + 27 * j) / P (S (164 + 27 * j)).toInt.toNat
def keepS (P S : Nat → Int32) (j : Nat) : Int32 := S (167 + 27 * j) - S (167 + 27 * j) / shaS P S j * shaS P S j
def pasS (S : Nat → Int32) (j : Nat) : Nat → Int32 := upS S (167 + 27 * j) (S (167 + 27 * j) + 1)
def stJ (P F S : Nat → Int32) (j : Nat) : Nat → Int32 :=
  if S (163 + 27 * j) = 1 then
    if F (S (164 + 27 * j)).toInt.toNat = 0 then S
    else if keepS P S j = 0 then addE (wkS (pasS S j)) j (S (164 + 27 * j)).toInt.toNat else pasS S j
  else S
def stN (P F S : Nat → Int32) : Nat → Nat → Int32
  | 0 => S
  | j + 1 => stJ P F (stN P F S j) j
/-- the most entries, as the class notes them -/
def moJ (P F S : Nat → Int32) (j : Nat) (M : Int32) : Int32 :=
  if S (163 + 27 * j) = 1 then
    if F (S (164 + 27 * j)).toInt.toNat = 0 then M
    else if keepS P S j = 0 then (if M < wkS (pasS S j) 3 + 1 then wkS (pasS S j) 3 + 1 else M) else M
  else M
def moN (P F S : Nat → Int32) (M : Int32) : Nat → Int32
  | 0 => M
  | j + 1 => moJ P F (stN P F S j) j (moN P F S M j)
theorem wkS_up {S : Nat → Int32} {j : Nat} {x : Int32} (hj : j < 8) : wkS (upS S (167 + 27 * j) x) = upS (wkS S) (167 + 27 * j) x := by
  unfold wkS
  rw [upS_m (j := 3) (by omega), upS_m (j := 4) (by omega), wakeS_up hj (by decide)]
  split <;> rfl
theorem addE_up {S : Nat → Int32} {j k f : Nat} {x : Int32} (hj : j < 8) (hf : f < 7 + 1) : addE (upS S (167 + 27 * j) x) k f = upS (addE S k f) (167 + 27 * j) x := by
  unfold addE
  rw [upS_m (j := 3) (by omega), upS_m (j := 19 + 19 * f) (by omega), upS_m (j := 20 + 19 * f) (by omega), upS_c (p := 167 + 27 * j) (by omega), upS_c (p := 167 + 27 * j) (by omega), upS_c (p := 167 + 27 * j) (by omega), upS_c (p := 167 + 27 * j) (by omega)]
theorem cnt_in {S : Nat → Int32} {tS tC : Nat → Int} {b : Int} (hW : WX S tS tC b) (hb : b ≤ 100000) {j : Nat} (hj : j < 8) (h1 : S (163 + 27 * j) = 1) : (0 ≤ gI S (164 + 27 * j) ∧ (S (164 + 27 * j)).toInt.toNat < nS S ∧ S (164 + 27 * j) = nI (S (164 + 27 * j)).toInt.toNat) ∧ (1 ≤ gI S (165 + 27 * j) ∧ gI S (165 + 27 * j) ≤ 400) ∧ (0 ≤ gI S (166 + 27 * j) ∧ gI S (166 + 27 * j) ≤ 400) ∧ (0 ≤ gI S (167 + 27 * j) ∧ gI S (167 + 27 * j) ≤ tC j) ∧ (0 ≤ gI S (168 + 27 * j) ∧ gI S (168 + 27 * j) + gI S 3 ≤ b) := by
  have hn := WX_cl hW j hj h1
  rcases hW.2.2.1 j hj with h2 | h2
  · rw [h2] at h1
    exact absurd h1 (by decide)
  · obtain ⟨_, d1, d2, d3, d4, d5, _⟩ := h2
    exact ⟨⟨d1.1, hn, toNI d1.1⟩, d2, d3, d4, d5⟩
/-- the share of a client that is there: at least 1 -/
theorem sha_in {P S : Nat → Int32} {tS tC : Nat → Int} {b : Int} (hW : WX S tS tC b) {j : Nat} (hj : j < 8) (h1 : S (163 + 27 * j) = 1) (hP : P (S (164 + 27 * j)).toInt.toNat = pd S (S (164 + 27 * j)).toInt.toNat) : 1 ≤ (P (S (164 + 27 * j)).toInt.toNat).toInt ∧ (shaS P S j).toInt = gI S (165 + 27 * j) / (pd S (S (164 + 27 * j)).toInt.toNat).toInt ∧ 1 ≤ (shaS P S j).toInt ∧ (shaS P S j).toInt ≤ 400 := by
  have hCW := CW_of hW
  have hCL := CL_of hW
  have hn := WX_cl hW j hj h1
  obtain ⟨hd, hle⟩ := dm_cl hCW hCL hj h1
  have hp := pd_in hCW hCL hn hd
  have h2 := (hCL j hj h1).2.1
  unfold shaS
  rw [hP]
  generalize pd S (S (164 + 27 * j)).toInt.toNat = d at *
  unfold gI at *
  have m1 : (-1 : Int32).toInt = -1 := by decide
  have e : (S (165 + 27 * j) / d).toInt = (S (165 + 27 * j)).toInt / d.toInt := by
    rw [tD (fun e => by rw [e] at hp; omega), Int.tdiv_eq_ediv_of_nonneg (by omega)]
  rw [e]
  have l1 : 1 ≤ (S (165 + 27 * j)).toInt / d.toInt := (Int.le_ediv_iff_mul_le (by omega)).mpr (by omega)
  have l2 : (S (165 + 27 * j)).toInt / d.toInt ≤ (S (165 + 27 * j)).toInt := Int.ediv_le_self _ (by omega)
  exact ⟨hp.1, rfl, l1, by omega⟩
theorem WX_pas {S : Nat → Int32} {tS tC : Nat → Int} {b : Int} (hW : WX S tS tC b) (ht : ∀ j, tC j ≤ 10500) {j : Nat} (hj : j < 8) : WX (pasS S j) tS (tUp tC j) b := by
  have h8 := nS_le hW.1
  have hm : ∀ p, p ≠ 167 + 27 * j → pasS S j p = S p := fun p hp => upS_m hp
  have gm : ∀ p, p ≠ 167 + 27 * j → gI (pasS S j) p = gI S p := fun p hp => congrArg Int32.toInt (hm p hp)
  have hcf : cfE S (pasS S j) := fun p hp => hm p (by rcases hp with h | h | h <;> omega)
  refine ⟨?_, fun i hi => ?_, fun k hk => ?_, fun e he => ?_⟩
  · unfold WG
    rw [gm 0 (by omega), gm 6 (by omega), gm 1 (by omega), gm 2 (by omega), gm 3 (by omega), gm 4 (by omega), gm 7 (by omega), gm 8 (by omega), gm 9 (by omega), gm 10 (by omega)]
    exact hW.1
  · rw [cfE_n hcf] at hi
    obtain ⟨h1, h2⟩ := hW.2.1 i hi
    exact ⟨WP_cong (fun p _ _ => hm p (by omega)) h1, WR_cong (hm 0 (by omega)) (fun p _ _ => hm p (by omega)) h2⟩
  · have hk2 := hW.2.2.1 k hk
    by_cases e : k = j
    · subst e
      rcases hk2 with h | h
      · left
        rw [hm _ (by omega)]
        exact h
      · right
        have hl := WX_cl hW k hk h.1
        have e7 : pasS S k (167 + 27 * k) = S (167 + 27 * k) + 1 := upS_h rfl
        have htk := ht k
        obtain ⟨d0, d1, d2, d3, d4, d5, d6, d7⟩ := h
        unfold gI at *
        have p7 : (S (167 + 27 * k) + 1).toInt = (S (167 + 27 * k)).toInt + 1 := plus1 d4.2 (by omega)
        rw [hm (163 + 27 * k) (by omega), hm (164 + 27 * k) (by omega), hm (165 + 27 * k) (by omega), hm (166 + 27 * k) (by omega), e7, p7, hm (168 + 27 * k) (by omega), hm (170 + 27 * k) (by omega), hm 1 (by omega), hm 3 (by omega), lst_c hcf (CW_of hW) hl]
        refine ⟨d0, d1, d2, d3, ?_, d5, d6, d7⟩
        unfold tUp
        rw [if_pos rfl]
        omega
    · have hw := WC_cong hk hcf (CW_of hW) (WX_cl hW k hk) (hm 3 (by omega)) (fun p _ _ => hm p (by omega)) hk2
      have et : tUp tC j k = tC k := if_neg e
      rw [et]
      exact hw
  · rw [gm 3 (by omega)] at he
    have hE := hW.2.2.2 e he
    have h3 := hW.1.2.2.2.2.1
    unfold WE gI at hE ⊢
    rw [hm (391 + 3 * e) (by omega), hm (392 + 3 * e) (by omega), hm (163 + 27 * (S (391 + 3 * e)).toInt.toNat) (by omega)]
    exact hE
theorem wkS_W {S : Nat → Int32} {tS tC : Nat → Int} {b : Int} (hW : WX S tS tC b) (hb : b ≤ 100000) : WX (wkS S) tS tC b ∧ cfE S (wkS S) ∧ (∀ p, p < 163 → p ≠ 3 → p ≠ 5 → p ≠ 8 → wkS S p = S p) ∧ (∀ j, j < 8 → ∀ k, k < 5 → wkS S (163 + 27 * j + k) = S (163 + 27 * j + k)) ∧ gI (wkS S) 3 < gI (wkS S) 4 := by
  unfold wkS
  have h4 := hW.1.2.2.2.2.2.1
  by_cases h : S 3 < S 4
  · rw [if_pos h]
    refine ⟨hW, cfE_rfl, fun _ _ _ _ _ => rfl, fun _ _ _ _ => rfl, ?_⟩
    rw [Int32.lt_iff_toInt_lt] at h
    exact h
  · rw [if_neg h]
    have h3 := hW.1.2.2.2.2.1
    refine ⟨wake_WX hW hb (by decide), wake_cfE hW (by decide), fun p h1 h2 h3 h5 => wakeS_m hW (by decide) (by omega) (by omega), fun j hj k hk => ?_, ?_⟩
    · unfold wakeS
      split
      · rfl
      · simp (disch := omega) only [upS_m]
        exact dlvN_cf (Or.inr ⟨j, hj, by omega, by omega⟩) _ (fun e he => (hW.2.2.2 e (by unfold gI at h3 ⊢; omega)).1)
    · have g4 : gI (wakeS S 1) 4 = gI S 4 := congrArg Int32.toInt (wakeS_m hW (by decide) (by omega) (by omega))
      rw [g4]
      have h0 : S 3 ≠ 0 := fun e => by
        rw [Int32.lt_iff_toInt_lt, e, z0T] at h
        unfold gI at h4
        omega
      have e3 : wakeS S 1 3 = 0 := by
        unfold wakeS
        rw [if_neg h0, upS_m (by omega), upS_m (by omega), upS_h rfl]
      have g3 : gI (wakeS S 1) 3 = 0 := by
        unfold gI
        rw [e3, z0T]
      omega
theorem addE_W {S : Nat → Int32} {tS tC : Nat → Int} {b : Int} (hW : WX S tS tC b) {j f : Nat} (hj : j < 8) (h1 : S (163 + 27 * j) = 1) (hf : f < nS S) (h34 : gI S 3 < gI S 4) : WX (addE S j f) tS tC (b + 1) ∧ (∀ p, p < 391 → p ≠ 3 → addE S j f p = S p) ∧ gI (addE S j f) 3 = gI S 3 + 1 := by
  have h8 := nS_le hW.1
  have h3 := hW.1.2.2.2.2.1
  have h4 := hW.1.2.2.2.2.2.1
  have hn : (S 3).toInt.toNat < 30 := by unfold gI at h3 h34 h4; omega
  have hm : ∀ p, p < 391 → p ≠ 3 → addE S j f p = S p := fun p hp hp3 => by
    unfold addE
    rw [upS_m hp3, upS_m (by omega), upS_m (by omega), upS_m (by omega)]
  have gm : ∀ p, p < 391 → p ≠ 3 → gI (addE S j f) p = gI S p := fun p hp hp3 => congrArg Int32.toInt (hm p hp hp3)
  have hcf : cfE S (addE S j f) := fun p hp => hm p (by rcases hp with h | h | h <;> omega) (by rcases hp with h | h | h <;> omega)
  have e3 : addE S j f 3 = S 3 + 1 := upS_h rfl
  have g3 : gI (addE S j f) 3 = gI S 3 + 1 := by
    unfold gI at h3 ⊢
    rw [e3, plus1 h3.2 (by omega)]
  refine ⟨⟨?_, fun i hi => ?_, fun k hk => ?_, fun e he => ?_⟩, hm, g3⟩
  · have hG := hW.1
    unfold WG at hG ⊢
    rw [gm 0 (by omega) (by omega), gm 6 (by omega) (by omega), gm 1 (by omega) (by omega), gm 2 (by omega) (by omega), g3, gm 4 (by omega) (by omega), gm 7 (by omega) (by omega), gm 8 (by omega) (by omega), gm 9 (by omega) (by omega), gm 10 (by omega) (by omega)]
    omega
  · rw [cfE_n hcf] at hi
    obtain ⟨a1, a2⟩ := hW.2.1 i hi
    exact ⟨WP_cong (fun p _ _ => hm p (by omega) (by omega)) a1, WR_cong (hm 0 (by omega) (by omega)) (fun p _ _ => hm p (by omega) (by omega)) a2⟩
  · rcases hW.2.2.1 k hk with h | h
    · left
      rw [hm _ (by omega) (by omega)]
      exact h
    · right
      have hl := WX_cl hW k hk h.1
      obtain ⟨d0, d1, d2, d3, d4, d5, d6, d7⟩ := h
      rw [g3, gm (164 + 27 * k) (by omega) (by omega), gm (165 + 27 * k) (by omega) (by omega), gm (166 + 27 * k) (by omega) (by omega), gm (167 + 27 * k) (by omega) (by omega), gm (168 + 27 * k) (by omega) (by omega), gm (170 + 27 * k) (by omega) (by omega), gm 1 (by omega) (by omega), hm (163 + 27 * k) (by omega) (by omega), hm (164 + 27 * k) (by omega) (by omega), hm (168 + 27 * k) (by omega) (by omega), hm (170 + 27 * k) (by omega) (by omega), lst_c hcf (CW_of hW) hl]
      exact ⟨d0, d1, d2, d3, d4, ⟨d5.1, by omega⟩, d6, d7⟩
  · rw [g3] at he
    by_cases en : e = (S 3).toInt.toNat
    · have a0 : addE S j f (391 + 3 * e) = nI j := by
        unfold addE
        rw [upS_m (by omega), upS_m (by omega), upS_m (by omega), upS_h (by omega)]
      have a1 : addE S j f (392 + 3 * e) = S (19 + 19 * f) := by
        unfold addE
        rw [upS_m (by omega), upS_m (by omega), upS_h (by omega)]
      have hWf := (hW.2.1 f hf).2.2.1
      have h0 := hW.1.1
      unfold WE gI
      rw [a0, a1, nI_toInt (by omega), show ((j : Int).toNat) = j from rfl, hm _ (by omega) (by omega)]
      unfold gI at hWf h0
      exact ⟨by omega, h1, by omega⟩
    · have hE := hW.2.2.2 e (by unfold gI at he ⊢; unfold gI at h3; omega)
      have a0 : addE S j f (391 + 3 * e) = S (391 + 3 * e) := by
        unfold addE
        rw [upS_m (by omega), upS_m (by omega), upS_m (by omega), upS_m (by omega)]
      have a1 : addE S j f (392 + 3 * e) = S (392 + 3 * e) := by
        unfold addE
        rw [upS_m (by omega), upS_m (by omega), upS_m (by omega), upS_m (by omega)]
      unfold WE gI at hE ⊢
      rw [a0, a1, hm (163 + 27 * (S (391 + 3 * e)).toInt.toNat) (by omega) (by omega)]
      exact hE
