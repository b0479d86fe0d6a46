/-! what only changes when sensors or clients come or go -/
def cfP (p : Nat) : Prop := p = 1 ∨ (11 ≤ p ∧ p < 163 ∧ (p - 11) % 19 < 7) ∨ (163 ≤ p ∧ p < 379 ∧ (p - 163) % 27 < 3)
def cfE (S S' : Nat → Int32) : Prop := ∀ p, cfP p → S' p = S p
theorem cfE_rfl {S : Nat → Int32} : cfE S S := fun _ _ => rfl
theorem cfE_tr {S S' S'' : Nat → Int32} (h : cfE S S') (h' : cfE S' S'') : cfE S S'' := fun p hp => (h' p hp).trans (h p hp)
theorem cfE_n {S S' : Nat → Int32} (h : cfE S S') : nS S' = nS S := by
  unfold nS
  rw [h 1 (Or.inl rfl)]
theorem cf_s {S S' : Nat → Int32} (h : cfE S S') {p i k : Nat} (hi : i < 8) (hk : k < 7) (hp : p = 11 + 19 * i + k) : S' p = S p := h p (Or.inr (Or.inl ⟨by omega, by omega, by omega⟩))
theorem cf_c {S S' : Nat → Int32} (h : cfE S S') {p j k : Nat} (hj : j < 8) (hk : k < 3) (hp : p = 163 + 27 * j + k) : S' p = S p := h p (Or.inr (Or.inr ⟨by omega, by omega, by omega⟩))
def CW (S : Nat → Int32) : Prop := nS S ≤ 8 ∧ ∀ i, i < nS S → WP S i
theorem CW_of {S : Nat → Int32} {tS tC : Nat → Int} {b : Int} (h : WX S tS tC b) : CW S := ⟨nS_le h.1, fun i hi => (h.2.1 i hi).1⟩
/-- a sensor that is not physical: its inputs come before it -/
theorem WP_1 {S : Nat → Int32} {i : Nat} (h : WP S i) (h4 : S (11 + 19 * i) ≠ 4) : (S (12 + 19 * i)).toInt.toNat < i := by
  rcases h with h | h
  · exact absurd h.1 h4
  · have := h.2.1
    unfold gI at this
    omega
theorem WP_2 {S : Nat → Int32} {i : Nat} (h : WP S i) (h4 : S (11 + 19 * i) ≠ 4) (h3 : S (11 + 19 * i) ≠ 3) : (S (13 + 19 * i)).toInt.toNat < i := by
  rcases h with h | h
  · exact absurd h.1 h4
  · have := h.2.2.2 h3
    unfold gI at this
    omega
theorem srcF_c {S S' : Nat → Int32} (h : cfE S S') (hW : CW S) : ∀ (f i : Nat), i < nS S → srcF S' f i = srcF S f i := by
  intro f
  induction f with
  | zero => intro i _; rfl
  | succ f ih =>
    intro i hi
    have h8 := hW.1
    show (if S' (11 + 19 * i) = 4 then i else srcF S' f (S' (12 + 19 * i)).toInt.toNat) = (if S (11 + 19 * i) = 4 then i else srcF S f (S (12 + 19 * i)).toInt.toNat)
    rw [cf_s h (i := i) (k := 0) (by omega) (by omega) (by omega), cf_s h (i := i) (k := 1) (by omega) (by omega) (by omega)]
    by_cases h4 : S (11 + 19 * i) = 4
    · rw [if_pos h4, if_pos h4]
    · have h1 := WP_1 (hW.2 i hi) h4
      rw [if_neg h4, if_neg h4, ih _ (by omega)]
theorem lstF_c {S S' : Nat → Int32} (h : cfE S S') (hW : CW S) : ∀ (f i : Nat), i < nS S → lstF S' f i = lstF S f i := by
  intro f
  induction f with
  | zero => intro i _; rfl
  | succ f ih =>
    intro i hi
    have h8 := hW.1
    show (if S' (11 + 19 * i) = 4 then gI S' (12 + 19 * i) else if S' (11 + 19 * i) = 3 then lstF S' f (S' (12 + 19 * i)).toInt.toNat else max (lstF S' f (S' (12 + 19 * i)).toInt.toNat) (lstF S' f (S' (13 + 19 * i)).toInt.toNat)) = (if S (11 + 19 * i) = 4 then gI S (12 + 19 * i) else if S (11 + 19 * i) = 3 then lstF S f (S (12 + 19 * i)).toInt.toNat else max (lstF S f (S (12 + 19 * i)).toInt.toNat) (lstF S f (S (13 + 19 * i)).toInt.toNat))
    unfold gI
    rw [cf_s h (i := i) (k := 0) (by omega) (by omega) (by omega), cf_s h (i := i) (k := 1) (by omega) (by omega) (by omega), cf_s h (i := i) (k := 2) (by omega) (by omega) (by omega)]
    by_cases h4 : S (11 + 19 * i) = 4
    · rw [if_pos h4, if_pos h4]
    · have h1 := WP_1 (hW.2 i hi) h4
      rw [if_neg h4, if_neg h4]
      by_cases h3 : S (11 + 19 * i) = 3
      · rw [if_pos h3, if_pos h3, ih _ (by omega)]
      · have h2 := WP_2 (hW.2 i hi) h4 h3
        rw [if_neg h3, if_neg h3, ih _ (by omega), ih _ (by omega)]
theorem askF_c {S S' : Nat → Int32} (h : cfE S S') (k : Nat) : ∀ j, j ≤ 8 → askF S' k j = askF S k j := by
  intro j
  induction j with
  | zero => intro _; rfl
  | succ j ih =>
    intro hj
    show (if S' (163 + 27 * j) = 1 ∧ S' (164 + 27 * j) = nI k then less (askF S' k j) (S' (165 + 27 * j)) else askF S' k j) = (if S (163 + 27 * j) = 1 ∧ S (164 + 27 * j) = nI k then less (askF S k j) (S (165 + 27 * j)) else askF S k j)
    rw [ih (by omega), cf_c h (j := j) (k := 0) (by omega) (by omega) (by omega), cf_c h (j := j) (k := 1) (by omega) (by omega) (by omega), cf_c h (j := j) (k := 2) (by omega) (by omega) (by omega)]
theorem dmS_c {S S' : Nat → Int32} (h : cfE S S') (hW : CW S) : ∀ j, j ≤ nS S → dmS S' j = dmS S j := by
  intro j
  have h8 := hW.1
  induction j with
  | zero =>
    intro _
    funext k
    exact askF_c h k 8 (by omega)
  | succ j ih =>
    intro hj
    have en := cfE_n h
    have e0 : S' (11 + 19 * (nS S - 1 - j)) = S (11 + 19 * (nS S - 1 - j)) := cf_s h (i := nS S - 1 - j) (k := 0) (by omega) (by omega) (by omega)
    have e1 : S' (12 + 19 * (nS S - 1 - j)) = S (12 + 19 * (nS S - 1 - j)) := cf_s h (i := nS S - 1 - j) (k := 1) (by omega) (by omega) (by omega)
    have e2 : S' (13 + 19 * (nS S - 1 - j)) = S (13 + 19 * (nS S - 1 - j)) := cf_s h (i := nS S - 1 - j) (k := 2) (by omega) (by omega) (by omega)
    unfold dmS
    simp only [ih (by omega), en, e0, e1, e2]
theorem dm_c {S S' : Nat → Int32} (h : cfE S S') (hW : CW S) : dm S' = dm S := by
  unfold dm
  rw [cfE_n h, dmS_c h hW _ (Nat.le_refl _)]
theorem srcF_lt {S : Nat → Int32} (hW : CW S) : ∀ (f i : Nat), i < nS S → srcF S f i ≤ i := by
  intro f
  induction f with
  | zero => intro i _; exact Nat.le_refl _
  | succ f ih =>
    intro i hi
    show (if S (11 + 19 * i) = 4 then i else srcF S f (S (12 + 19 * i)).toInt.toNat) ≤ i
    by_cases h4 : S (11 + 19 * i) = 4
    · rw [if_pos h4]; omega
    · have h1 := WP_1 (hW.2 i hi) h4
      rw [if_neg h4]
      have := ih (S (12 + 19 * i)).toInt.toNat (by omega)
      omega
theorem src_le {S : Nat → Int32} (hW : CW S) {i : Nat} (hi : i < nS S) : src S i ≤ i := srcF_lt hW 8 i hi
theorem src_c {S S' : Nat → Int32} (h : cfE S S') (hW : CW S) {i : Nat} (hi : i < nS S) : src S' i = src S i := srcF_c h hW 8 i hi
theorem lst_c {S S' : Nat → Int32} (h : cfE S S') (hW : CW S) {i : Nat} (hi : i < nS S) : lst S' i = lst S i := lstF_c h hW 8 i hi
theorem pd_c {S S' : Nat → Int32} (h : cfE S S') (hW : CW S) {i : Nat} (hi : i < nS S) : pd S' i = pd S i := by
  have h8 := hW.1
  have hs := src_le hW hi
  unfold pd sup
  rw [dm_c h hW, src_c h hW hi, cf_s h (p := 12 + 19 * src S i) (i := src S i) (k := 1) (by omega) (by omega) (by omega), cf_s h (p := 13 + 19 * src S i) (i := src S i) (k := 2) (by omega) (by omega) (by omega)]
/-- a memory that keeps what belongs to sensors and clients as they are -/
def stK (σ σ' : Mem) (q : Nat) : Prop := (∀ i k, i < 8 → k < 12 → σ' (q + 2 + (8 + 2 * i)) k = σ (q + 2 + (8 + 2 * i)) k) ∧ ∀ j k, j < 8 → k < 5 → σ' (q + 3 + (23 + 2 * j)) k = σ (q + 3 + (23 + 2 * j)) k
def RS (σ : Mem) (q : Nat) (S : Nat → Int32) : Prop := (∀ i, i < nS S → RP (σ (q + 2 + (8 + 2 * i))) S i ∧ RD (σ (q + 2 + (8 + 2 * i))) S i) ∧ ∀ j, j < 8 → RK (σ (q + 3 + (23 + 2 * j))) S j
def RY (σ : Mem) (q : Nat) (S : Nat → Int32) : Prop := RG σ q S ∧ RO σ q S ∧ RE σ q S ∧ (∀ i, i < nS S → RR (σ (q + 2 + (8 + 2 * i))) (σ (q + 2 + (8 + 2 * i) + 1)) S i) ∧ ∀ j, j < 8 → RC (σ (q + 3 + (23 + 2 * j))) (σ (q + 3 + (23 + 2 * j) + 1)) S j
theorem RH_iff {σ : Mem} {q : Nat} {S : Nat → Int32} : RH σ q S ↔ RS σ q S ∧ RY σ q S := by
  constructor
  · intro h
    exact ⟨⟨fun i hi => ⟨(h.2.2.2.1 i hi).1, (h.2.2.2.1 i hi).2.2⟩, fun j hj => (h.2.2.2.2 j hj).2⟩, h.1, h.2.1, h.2.2.1, fun i hi => (h.2.2.2.1 i hi).2.1, fun j hj => (h.2.2.2.2 j hj).1⟩
  · intro h
    exact ⟨h.2.1, h.2.2.1, h.2.2.2.1, fun i hi => ⟨(h.1.1 i hi).1, h.2.2.2.2.1 i hi, (h.1.1 i hi).2⟩, fun j hj => ⟨h.2.2.2.2.2 j hj, h.1.2 j hj⟩⟩
theorem RS_keep {σ σ' : Mem} {q : Nat} {S S' : Nat → Int32} (hc : cfE S S') (hW : CW S) (hk : stK σ σ' q) (hC : ∀ j, j < 8 → S (163 + 27 * j) = 1 → (S (164 + 27 * j)).toInt.toNat < nS S) (h : RS σ q S) : RS σ' q S' := by
  have h8 := hW.1
  refine ⟨fun i hi => ?_, fun j hj => ?_⟩
  · rw [cfE_n hc] at hi
    obtain ⟨⟨a0, a1, a2, a3, a4⟩, b1, b2⟩ := h.1 i hi
    have kk : ∀ k, k < 12 → σ' (q + 2 + (8 + 2 * i)) k = σ (q + 2 + (8 + 2 * i)) k := fun k hk' => hk.1 i k (by omega) hk'
    have cc : ∀ p k, k < 7 → p = 11 + 19 * i + k → S' p = S p := fun p k h1 h2 => cf_s hc (i := i) (k := k) (by omega) h1 h2
    unfold RP RD
    rw [cc (11 + 19 * i) 0 (by omega) (by omega), cc (12 + 19 * i) 1 (by omega) (by omega), cc (13 + 19 * i) 2 (by omega) (by omega), cc (14 + 19 * i) 3 (by omega) (by omega), cc (15 + 19 * i) 4 (by omega) (by omega), cc (16 + 19 * i) 5 (by omega) (by omega), cc (17 + 19 * i) 6 (by omega) (by omega), src_c hc hW hi, lst_c hc hW hi, dm_c hc hW, pd_c hc hW hi,
      kk 0 (by omega), kk 1 (by omega), kk 2 (by omega), kk 3 (by omega), kk 4 (by omega), kk 5 (by omega), kk 6 (by omega), kk 7 (by omega), kk 8 (by omega), kk 9 (by omega), kk 10 (by omega), kk 11 (by omega)]
    exact ⟨⟨a0, a1, a2, a3, a4⟩, b1, b2⟩
  · intro h1
    have h0 := h.2 j hj
    rw [cf_c hc (j := j) (k := 0) hj (by omega) (by omega)] at h1
    have hl := hC j hj h1
    unfold RK gI at h0
    unfold gI
    rw [hk.2 j 4 hj (by omega), cf_c hc (p := 164 + 27 * j) (j := j) (k := 1) hj (by omega) (by omega), cf_c hc (p := 165 + 27 * j) (j := j) (k := 2) hj (by omega) (by omega), pd_c hc hW hl]
    exact h0 h1
theorem WX_cl {S : Nat → Int32} {tS tC : Nat → Int} {b : Int} (h : WX S tS tC b) : ∀ j, j < 8 → S (163 + 27 * j) = 1 → (S (164 + 27 * j)).toInt.toNat < nS S := by
  intro j hj h1
  rcases h.2.2.1 j hj with h2 | h2
  · rw [h2] at h1
    exact absurd h1 (by decide)
  · have := h2.2.1
    unfold nS
    unfold gI at this
    omega
