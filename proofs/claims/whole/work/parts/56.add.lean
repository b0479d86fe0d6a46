/-! a sensor is added: the row -/
def rowA (S g : Nat → Int32) : Nat → Int32 := fun p => if p = 1 then S 1 + 1 else if 11 + 19 * nS S ≤ p ∧ p < 30 + 19 * nS S then g (p - (11 + 19 * nS S)) else S p
theorem rowA_1 {S g : Nat → Int32} : rowA S g 1 = S 1 + 1 := if_pos rfl
theorem rowA_m {S g : Nat → Int32} {p : Nat} (h : p ≠ 1) (h2 : p < 11 + 19 * nS S ∨ 30 + 19 * nS S ≤ p) : rowA S g p = S p := by
  unfold rowA
  rw [if_neg h, if_neg (by omega)]
theorem rowA_g {S g : Nat → Int32} {p : Nat} (k : Nat) (hk : k < 19) (hp : p = 11 + 19 * nS S + k) : rowA S g p = g k := by
  unfold rowA
  rw [if_neg (by omega), if_pos (by omega)]
  exact congrArg g (by omega)
theorem srcF_e {S S' : Nat → Int32} {n : Nat} (h : ∀ i, i < n → ∀ k, k < 7 → S' (11 + 19 * i + k) = S (11 + 19 * i + k)) (hP : ∀ i, i < n → WP S i) : ∀ (f i : Nat), i < n → srcF S' f i = srcF S f i := by
  intro f
  induction f with
  | zero => intro i _; rfl
  | succ f ih =>
    intro i hi
    have e0 : S' (11 + 19 * i) = S (11 + 19 * i) := h i hi 0 (by omega)
    have e1 : S' (12 + 19 * i) = S (12 + 19 * i) := by have := h i hi 1 (by omega); rw [show 11 + 19 * i + 1 = 12 + 19 * i by omega] at this; exact this
    show (if S' (11 + 19 * i) = 4 then i else srcF S' f (S' (12 + 19 * i)).toInt.toNat) = (if S (11 + 19 * i) = 4 then i else srcF S f (S (12 + 19 * i)).toInt.toNat)
    rw [e0, e1]
    by_cases h4 : S (11 + 19 * i) = 4
    · rw [if_pos h4, if_pos h4]
    · have h1 := WP_1 (hP i hi) h4
      rw [if_neg h4, if_neg h4, ih _ (by omega)]
theorem lstF_e {S S' : Nat → Int32} {n : Nat} (h : ∀ i, i < n → ∀ k, k < 7 → S' (11 + 19 * i + k) = S (11 + 19 * i + k)) (hP : ∀ i, i < n → WP S i) : ∀ (f i : Nat), i < n → lstF S' f i = lstF S f i := by
  intro f
  induction f with
  | zero => intro i _; rfl
  | succ f ih =>
    intro i hi
    have e0 : S' (11 + 19 * i) = S (11 + 19 * i) := h i hi 0 (by omega)
    have e1 : S' (12 + 19 * i) = S (12 + 19 * i) := by have := h i hi 1 (by omega); rw [show 11 + 19 * i + 1 = 12 + 19 * i by omega] at this; exact this
    have e2 : S' (13 + 19 * i) = S (13 + 19 * i) := by have := h i hi 2 (by omega); rw [show 11 + 19 * i + 2 = 13 + 19 * i by omega] at this; exact this
    show (if S' (11 + 19 * i) = 4 then gI S' (12 + 19 * i) else if S' (11 + 19 * i) = 3 then lstF S' f (S' (12 + 19 * i)).toInt.toNat else max (lstF S' f (S' (12 + 19 * i)).toInt.toNat) (lstF S' f (S' (13 + 19 * i)).toInt.toNat)) = (if S (11 + 19 * i) = 4 then gI S (12 + 19 * i) else if S (11 + 19 * i) = 3 then lstF S f (S (12 + 19 * i)).toInt.toNat else max (lstF S f (S (12 + 19 * i)).toInt.toNat) (lstF S f (S (13 + 19 * i)).toInt.toNat))
    unfold gI
    rw [e0, e1, e2]
    by_cases h4 : S (11 + 19 * i) = 4
    · rw [if_pos h4, if_pos h4]
    · have h1 := WP_1 (hP i hi) h4
      rw [if_neg h4, if_neg h4]
      by_cases h3 : S (11 + 19 * i) = 3
      · rw [if_pos h3, if_pos h3, ih _ (by omega)]
      · have h2 := WP_2 (hP i hi) h4 h3
        rw [if_neg h3, if_neg h3, ih _ (by omega), ih _ (by omega)]
theorem rowA_ag {S g : Nat → Int32} : ∀ i, i < nS S → ∀ k, k < 7 → rowA S g (11 + 19 * i + k) = S (11 + 19 * i + k) := fun i hi k hk => rowA_m (by omega) (by omega)
theorem rowA_n {S g : Nat → Int32} {b : Int} (hG : WG S b) (hn : nS S < 8) : nS (rowA S g) = nS S + 1 := by
  have h1 := hG.2.2.1
  unfold gI at h1
  show (rowA S g 1).toInt.toNat = _
  rw [rowA_1, plus1 h1.2 (by decide)]
  unfold nS
  omega
theorem src_e {S g : Nat → Int32} (hW : CW S) {i : Nat} (hi : i < nS S) : src (rowA S g) i = src S i := srcF_e rowA_ag hW.2 8 i hi
theorem lst_e {S g : Nat → Int32} (hW : CW S) {i : Nat} (hi : i < nS S) : lst (rowA S g) i = lst S i := lstF_e rowA_ag hW.2 8 i hi
theorem ask_e {S g : Nat → Int32} (hn : nS S < 8) (k : Nat) : ∀ j, j ≤ 8 → askF (rowA S g) k j = askF S k j := by
  intro j
  induction j with
  | zero => intro _; rfl
  | succ j ih =>
    intro hj
    show (if rowA S g (163 + 27 * j) = 1 ∧ rowA S g (164 + 27 * j) = nI k then less (askF (rowA S g) k j) (rowA S g (165 + 27 * j)) else askF (rowA S g) k j) = (if S (163 + 27 * j) = 1 ∧ S (164 + 27 * j) = nI k then less (askF S k j) (S (165 + 27 * j)) else askF S k j)
    rw [ih (by omega), rowA_m (p := 163 + 27 * j) (by omega) (by omega), rowA_m (p := 164 + 27 * j) (by omega) (by omega), rowA_m (p := 165 + 27 * j) (by omega) (by omega)]
theorem ask_0 {S : Nat → Int32} {k : Nat} (h : ∀ j, j < 8 → S (163 + 27 * j) = 1 → S (164 + 27 * j) ≠ nI k) : ∀ m, m ≤ 8 → askF S k m = -9 := by
  intro m
  induction m with
  | zero => intro _; rfl
  | succ m ih =>
    intro hm
    show (if S (163 + 27 * m) = 1 ∧ S (164 + 27 * m) = nI k then less (askF S k m) (S (165 + 27 * m)) else askF S k m) = -9
    rw [if_neg (fun z => h m (by omega) z.1 z.2)]
    exact ih (by omega)
theorem dn_e {S g : Nat → Int32} {m : Nat} (hm : m < nS S) (d : Nat → Int32) : dnS (rowA S g) m d = dnS S m d := by
  unfold dnS
  rw [rowA_m (p := 11 + 19 * m) (by omega) (by omega), rowA_m (p := 12 + 19 * m) (by omega) (by omega), rowA_m (p := 13 + 19 * m) (by omega) (by omega)]
theorem dm_e {S g : Nat → Int32} {tS tC : Nat → Int} {b : Int} (hW : WX S tS tC b) (hn : nS S < 8) : dm (rowA S g) = dm S ∧ dm S (nS S) = -9 := by
  have hCW := CW_of hW
  have hnn := rowA_n (g := g) hW.1 hn
  have hno : askF S (nS S) 8 = -9 := ask_0 (fun j hj h1 e => by
    have h2 := WX_cl hW j hj h1
    rw [e, nI_toInt (by omega)] at h2
    omega) 8 (Nat.le_refl _)
  have h0 : dmS (rowA S g) 0 = dmS S 0 := by
    funext k
    exact ask_e hn k 8 (Nat.le_refl _)
  have hs : ∀ j, j ≤ nS S → dmS (rowA S g) (j + 1) = dmS S j := by
    intro j
    induction j with
    | zero =>
      intro _
      rw [dmS_dn (m := nS S) (by omega), h0]
      unfold dnS
      rw [if_neg]
      intro z
      exact z.2 hno
    | succ j ih =>
      intro hj
      rw [dmS_dn (S := rowA S g) (m := nS S - 1 - j) (by omega), dmS_dn (S := S) (m := nS S - 1 - j) (by omega), ih (by omega), dn_e (by omega)]
  constructor
  · unfold dm
    rw [hnn]
    exact hs _ (Nat.le_refl _)
  · have := dmS_st hCW (x := nS S) (nS S) 0 (by omega) (by omega)
    rw [Nat.zero_add] at this
    show dmS S (nS S) (nS S) = -9
    rw [this]
    exact hno
theorem pd_e {S g : Nat → Int32} {tS tC : Nat → Int} {b : Int} (hW : WX S tS tC b) (hn : nS S < 8) : (∀ i, i < nS S → pd (rowA S g) i = pd S i) ∧ pd (rowA S g) (nS S) = -9 := by
  have hCW := CW_of hW
  obtain ⟨h1, h2⟩ := dm_e (g := g) hW hn
  refine ⟨fun i hi => ?_, ?_⟩
  · have hs := src_le hCW hi
    unfold pd sup
    rw [h1, src_e hCW hi, rowA_m (p := 12 + 19 * src S i) (by omega) (by omega), rowA_m (p := 13 + 19 * src S i) (by omega) (by omega)]
  · unfold pd
    rw [h1, if_pos h2]
theorem add_W {S g : Nat → Int32} {tS tC : Nat → Int} {b : Int} (hW : WX S tS tC b) (hn : nS S < 8) (hg : ∀ k, 7 ≤ k → k < 19 → g k = 0) (hP : WP (rowA S g) (nS S)) (ht : 0 ≤ tS (nS S)) : WX (rowA S g) tS tC b := by
  have hnn := rowA_n (g := g) hW.1 hn
  have h1 := hW.1.2.2.1
  have h3 := hW.1.2.2.2.2.1
  have hn8 : gI S 1 < 8 := by unfold nS at hn; unfold gI at h1 ⊢; omega
  have hCW := CW_of hW
  have gm : ∀ p, p ≠ 1 → (p < 11 + 19 * nS S ∨ 30 + 19 * nS S ≤ p) → gI (rowA S g) p = gI S p := fun p h h2 => congrArg Int32.toInt (rowA_m h h2)
  have g1 : gI (rowA S g) 1 = gI S 1 + 1 := by
    unfold gI at h1 ⊢
    rw [rowA_1, plus1 h1.2 (by decide)]
  have gz : ∀ k, 7 ≤ k → k < 19 → gI (rowA S g) (11 + 19 * nS S + k) = 0 := fun k h7 h19 => by
    unfold gI
    rw [rowA_g k h19 rfl, hg k h7 h19, z0T]
  refine ⟨?_, fun i hi => ?_, fun k hk => ?_, fun e he => ?_⟩
  · have hG := hW.1
    unfold WG at hG ⊢
    rw [gm 0 (by omega) (by omega), gm 6 (by omega) (by omega), g1, gm 2 (by omega) (by omega), gm 3 (by omega) (by omega), gm 4 (by omega) (by omega), gm 7 (by omega) (by omega), gm 8 (by omega) (by omega), gm 9 (by omega) (by omega), gm 10 (by omega) (by omega)]
    omega
  · rw [hnn] at hi
    by_cases e : i = nS S
    · subst e
      refine ⟨hP, ?_⟩
      have z7 := gz 7 (by omega) (by omega)
      have z8 := gz 8 (by omega) (by omega)
      have z10 := gz 10 (by omega) (by omega)
      have z9 : rowA S g (20 + 19 * nS S) = 0 := by rw [rowA_g 9 (by omega) (by omega), hg 9 (by omega) (by omega)]
      rw [show 11 + 19 * nS S + 7 = 18 + 19 * nS S by omega] at z7
      rw [show 11 + 19 * nS S + 8 = 19 + 19 * nS S by omega] at z8
      rw [show 11 + 19 * nS S + 10 = 21 + 19 * nS S by omega] at z10
      have h0 := hW.1.1
      have g0 := gm 0 (by omega) (by omega)
      unfold WR
      rw [z7, z8, z10, z9, g0]
      refine ⟨by omega, ⟨by omega, by omega, fun _ => by omega⟩, Or.inr ?_, by omega, fun r _ hr => by omega, fun h => by omega⟩
      unfold gI
      rw [z9, z0T]
      omega
    · obtain ⟨k1, k2⟩ := hW.2.1 i (by omega)
      exact ⟨WP_cong (fun p _ _ => rowA_m (by omega) (by omega)) k1, WR_cong (rowA_m (by omega) (by omega)) (fun p _ _ => rowA_m (by omega) (by omega)) k2⟩
  · rcases hW.2.2.1 k hk with h | h
    · left
      rw [rowA_m (by omega) (by omega)]
      exact h
    · right
      have hl := WX_cl hW k hk h.1
      obtain ⟨d0, d1, d2, d3, d4, d5, d6, d7⟩ := h
      rw [g1, gm 3 (by omega) (by omega), gm (164 + 27 * k) (by omega) (by omega), gm (165 + 27 * k) (by omega) (by omega), gm (166 + 27 * k) (by omega) (by omega), gm (167 + 27 * k) (by omega) (by omega), gm (168 + 27 * k) (by omega) (by omega), gm (170 + 27 * k) (by omega) (by omega), rowA_m (p := 163 + 27 * k) (by omega) (by omega), rowA_m (p := 164 + 27 * k) (by omega) (by omega), rowA_m (p := 168 + 27 * k) (by omega) (by omega), rowA_m (p := 170 + 27 * k) (by omega) (by omega), lst_e hCW hl]
      exact ⟨d0, ⟨d1.1, by omega⟩, d2, d3, d4, d5, d6, d7⟩
  · rw [gm 3 (by omega) (by omega)] at he
    have hE := hW.2.2.2 e he
    unfold WE gI at hE ⊢
    rw [rowA_m (p := 391 + 3 * e) (by omega) (by omega), rowA_m (p := 392 + 3 * e) (by omega) (by omega), rowA_m (p := 163 + 27 * (S (391 + 3 * e)).toInt.toNat) (by omega) (by omega)]
    exact hE
theorem add_RH {σ σ' : Mem} {q : Nat} {S g : Nat → Int32} {tS tC : Nat → Int} {b : Int} (hW : WX S tS tC b) (hn : nS S < 8) (hg : ∀ k, 7 ≤ k → k < 19 → g k = 0) (hR : RH σ q S) (ho : ∀ w, w ≠ q → w ≠ q + 2 + (8 + 2 * nS S) → σ' w = σ w) (hq : ∀ k, k ≠ 4 → σ' q k = σ q k) (h4 : σ' q 4 = S 1 + 1) (hRP : RP (σ' (q + 2 + (8 + 2 * nS S))) (rowA S g) (nS S)) (h10 : σ' (q + 2 + (8 + 2 * nS S)) 10 = -9) (h11 : σ' (q + 2 + (8 + 2 * nS S)) 11 = -9) (h12 : σ' (q + 2 + (8 + 2 * nS S)) 12 = 0) (h16 : σ' (q + 2 + (8 + 2 * nS S)) 16 = 0) : RH σ' q (rowA S g) := by
  have hnn := rowA_n (g := g) hW.1 hn
  have h2b := hW.1.2.2.2.1
  have h3b := hW.1.2.2.2.2.1
  have hCW := CW_of hW
  obtain ⟨dm1, dm2⟩ := dm_e (g := g) hW hn
  obtain ⟨pd1, pd2⟩ := pd_e (g := g) hW hn
  have gm : ∀ p, p ≠ 1 → (p < 11 + 19 * nS S ∨ 30 + 19 * nS S ≤ p) → gI (rowA S g) p = gI S p := fun p h h2 => congrArg Int32.toInt (rowA_m h h2)
  obtain ⟨hRG, hRO, hRE, hRRS, hRCS⟩ := hR
  refine ⟨?_, ?_, ?_, fun i hi => ?_, fun k hk => ?_⟩
  · unfold RG at hRG ⊢
    rw [hq 0 (by omega), hq 1 (by omega), hq 2 (by omega), hq 3 (by omega), h4, ho (q + 1) (by omega) (by omega), rowA_1, rowA_m (p := 0) (by omega) (by omega), rowA_m (p := 6) (by omega) (by omega), rowA_m (p := 5) (by omega) (by omega), rowA_m (p := 4) (by omega) (by omega)]
    refine ⟨hRG.1, hRG.2.1, hRG.2.2.1, hRG.2.2.2.1, rfl, fun c hc => ?_⟩
    rw [rowA_m (p := 7 + c) (by omega) (by omega)]
    exact hRG.2.2.2.2.2 c hc
  · unfold RO at hRO ⊢
    rw [ho (q + 4) (by omega) (by omega), ho (q + 4 + 1) (by omega) (by omega), ho (q + 4 + 2) (by omega) (by omega), ho (q + 4 + 3) (by omega) (by omega), gm 2 (by omega) (by omega), rowA_m (p := 2) (by omega) (by omega)]
    refine ⟨hRO.1, fun o ho2 => ?_⟩
    rw [rowA_m (p := 379 + 3 * o) (by omega) (by omega), rowA_m (p := 380 + 3 * o) (by omega) (by omega), rowA_m (p := 381 + 3 * o) (by omega) (by omega)]
    exact hRO.2 o ho2
  · unfold RE at hRE ⊢
    rw [ho (q + 8) (by omega) (by omega), ho (q + 8 + 1) (by omega) (by omega), gm 3 (by omega) (by omega), rowA_m (p := 3) (by omega) (by omega)]
    refine ⟨hRE.1, fun e p he hp => ?_⟩
    rw [rowA_m (p := 391 + 3 * e + p) (by omega) (by omega)]
    exact hRE.2 e p he hp
  · rw [hnn] at hi
    by_cases e : i = nS S
    · subst e
      have z : ∀ k p, 7 ≤ k → k < 19 → p = 11 + 19 * nS S + k → rowA S g p = 0 := fun k p h7 h19 hp => by rw [rowA_g k h19 hp, hg k h7 h19]
      refine ⟨hRP, ?_, ?_⟩
      · unfold RR gI
        rw [h12, h16, z 7 (18 + 19 * nS S) (by omega) (by omega) (by omega), z 10 (21 + 19 * nS S) (by omega) (by omega) (by omega), z0T]
        exact ⟨rfl, fun h => by omega, rfl, fun k _ hk => by omega⟩
      · unfold RD
        rw [h10, h11, dm1, dm2, pd2]
        exact ⟨rfl, rfl⟩
    · have hi2 : i < nS S := by omega
      obtain ⟨hP, hr, hD⟩ := hRRS i hi2
      rw [ho _ (by omega) (by omega), ho _ (by omega) (by omega)]
      refine ⟨?_, RR_cong (fun p _ _ => rowA_m (by omega) (by omega)) hr, ?_⟩
      · unfold RP at hP ⊢
        rw [rowA_m (p := 11 + 19 * i) (by omega) (by omega), rowA_m (p := 12 + 19 * i) (by omega) (by omega), rowA_m (p := 13 + 19 * i) (by omega) (by omega), rowA_m (p := 14 + 19 * i) (by omega) (by omega), rowA_m (p := 15 + 19 * i) (by omega) (by omega), rowA_m (p := 16 + 19 * i) (by omega) (by omega), rowA_m (p := 17 + 19 * i) (by omega) (by omega), src_e hCW hi2, lst_e hCW hi2]
        exact hP
      · unfold RD at hD ⊢
        rw [dm1, pd1 i hi2]
        exact hD
  · rw [ho _ (by omega) (by omega), ho _ (by omega) (by omega)]
    refine ⟨RC_cong (fun p _ _ => rowA_m (by omega) (by omega)) (hRCS k hk).1, ?_⟩
    intro h1
    rw [rowA_m (by omega) (by omega)] at h1
    have hl := WX_cl hW k hk h1
    have h0 := (hRCS k hk).2 h1
    unfold gI at h0 ⊢
    rw [rowA_m (p := 164 + 27 * k) (by omega) (by omega), rowA_m (p := 165 + 27 * k) (by omega) (by omega), pd1 _ hl]
    exact h0
