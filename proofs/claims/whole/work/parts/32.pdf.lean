/-! demands and periods: how they lie -/
/-- where b is a demand, a is one too, at most b -/
def dle (a b : Int32) : Prop := b ≠ -9 → a ≠ -9 ∧ a.toInt ≤ b.toInt
theorem dle_rfl {a : Int32} : dle a a := fun h => ⟨h, Int.le_refl _⟩
theorem dle_tr {a b c : Int32} (h1 : dle a b) (h2 : dle b c) : dle a c := fun h => by
  have h3 := h2 h
  have h4 := h1 h3.1
  exact ⟨h4.1, by omega⟩
theorem less_1 {a b : Int32} : dle (less a b) a := fun h => by
  unfold less
  rw [if_neg h]
  by_cases h1 : b = -9
  · rw [if_pos h1]; exact ⟨h, by omega⟩
  · rw [if_neg h1]
    by_cases h2 : a < b
    · rw [if_pos h2]; exact ⟨h, by omega⟩
    · rw [if_neg h2]
      rw [Int32.lt_iff_toInt_lt] at h2
      exact ⟨h1, by omega⟩
theorem less_2 {a b : Int32} : dle (less a b) b := fun h => by
  unfold less
  by_cases h1 : a = -9
  · rw [if_pos h1]; exact ⟨h, by omega⟩
  · rw [if_neg h1, if_neg h]
    by_cases h2 : a < b
    · rw [if_pos h2]
      rw [Int32.lt_iff_toInt_lt] at h2
      exact ⟨h1, by omega⟩
    · rw [if_neg h2]; exact ⟨h, by omega⟩
theorem less_or (a b : Int32) : less a b = a ∨ less a b = b := by
  unfold less
  by_cases h1 : a = -9
  · rw [if_pos h1]; exact Or.inr rfl
  · rw [if_neg h1]
    by_cases h2 : b = -9
    · rw [if_pos h2]; exact Or.inl rfl
    · rw [if_neg h2]
      split
      · exact Or.inl rfl
      · exact Or.inr rfl
/-- the row's clients: of each that is there, where and how often -/
def CL (S : Nat → Int32) : Prop := ∀ j, j < 8 → S (163 + 27 * j) = 1 → (0 ≤ gI S (164 + 27 * j) ∧ (S (164 + 27 * j)).toInt.toNat < nS S) ∧ (1 ≤ gI S (165 + 27 * j) ∧ gI S (165 + 27 * j) ≤ 400) ∧ lst S (S (164 + 27 * j)).toInt.toNat ≤ gI S (165 + 27 * j)
theorem CL_of {S : Nat → Int32} {tS tC : Nat → Int} {b : Int} (h : WX S tS tC b) : CL S := by
  intro j hj h1
  have hn := WX_cl h j hj h1
  rcases h.2.2.1 j hj with h2 | h2
  · rw [h2] at h1
    exact absurd h1 (by decide)
  · exact ⟨⟨h2.2.1.1, hn⟩, h2.2.2.1, h2.2.2.2.2.2.2.2⟩
theorem ask_le {S : Nat → Int32} {k j : Nat} (h1 : S (163 + 27 * j) = 1) (h2 : S (164 + 27 * j) = nI k) : ∀ m, j < m → dle (askF S k m) (S (165 + 27 * j)) := by
  intro m
  induction m with
  | zero => intro h; omega
  | succ m ih =>
    intro h
    show dle (if S (163 + 27 * m) = 1 ∧ S (164 + 27 * m) = nI k then less (askF S k m) (S (165 + 27 * m)) else askF S k m) _
    by_cases e : j = m
    · subst e
      rw [if_pos ⟨h1, h2⟩]
      exact less_2
    · have h3 := ih (by omega)
      split
      · exact dle_tr less_1 h3
      · exact h3
theorem ask_in {S : Nat → Int32} (hC : CL S) {k : Nat} (hk : k < 8) : ∀ m, m ≤ 8 → askF S k m = -9 ∨ ((lst S k ≤ (askF S k m).toInt) ∧ 1 ≤ (askF S k m).toInt ∧ (askF S k m).toInt ≤ 400) := by
  intro m
  induction m with
  | zero => intro _; exact Or.inl rfl
  | succ m ih =>
    intro hm
    have h3 := ih (by omega)
    show (if S (163 + 27 * m) = 1 ∧ S (164 + 27 * m) = nI k then less (askF S k m) (S (165 + 27 * m)) else askF S k m) = -9 ∨ (_ ≤ (if S (163 + 27 * m) = 1 ∧ S (164 + 27 * m) = nI k then less (askF S k m) (S (165 + 27 * m)) else askF S k m).toInt ∧ 1 ≤ (if S (163 + 27 * m) = 1 ∧ S (164 + 27 * m) = nI k then less (askF S k m) (S (165 + 27 * m)) else askF S k m).toInt ∧ (if S (163 + 27 * m) = 1 ∧ S (164 + 27 * m) = nI k then less (askF S k m) (S (165 + 27 * m)) else askF S k m).toInt ≤ 400)
    by_cases h : S (163 + 27 * m) = 1 ∧ S (164 + 27 * m) = nI k
    · rw [if_pos h]
      rcases less_or (askF S k m) (S (165 + 27 * m)) with e | e
      · rw [e]; exact h3
      · rw [e]
        have h4 := hC m (by omega) h.1
        rw [h.2, nI_toInt (by omega)] at h4
        have h5 : ((k : Nat) : Int).toNat = k := rfl
        rw [h5] at h4
        unfold gI at h4
        exact Or.inr ⟨h4.2.2, h4.2.1⟩
    · rw [if_neg h]
      exact h3
theorem lstF_f {S : Nat → Int32} (hW : CW S) : ∀ (f i : Nat), i < f → i < nS S → lstF S (f + 1) i = lstF S f i := by
  intro f
  induction f with
  | zero => intro i h; omega
  | succ f ih =>
    intro i hf hi
    show (if S (11 + 19 * i) = 4 then gI S (12 + 19 * i) else if S (11 + 19 * i) = 3 then lstF S (f + 1) (S (12 + 19 * i)).toInt.toNat else max (lstF S (f + 1) (S (12 + 19 * i)).toInt.toNat) (lstF S (f + 1) (S (13 + 19 * i)).toInt.toNat)) = (if S (11 + 19 * i) = 4 then gI S (12 + 19 * i) else if S (11 + 19 * i) = 3 then lstF S f (S (12 + 19 * i)).toInt.toNat else max (lstF S f (S (12 + 19 * i)).toInt.toNat) (lstF S f (S (13 + 19 * i)).toInt.toNat))
    by_cases h4 : S (11 + 19 * i) = 4
    · rw [if_pos h4, if_pos h4]
    · have h1 := WP_1 (hW.2 i hi) h4
      rw [if_neg h4, if_neg h4]
      by_cases h3 : S (11 + 19 * i) = 3
      · rw [if_pos h3, if_pos h3, ih _ (by omega) (by omega)]
      · have h2 := WP_2 (hW.2 i hi) h4 h3
        rw [if_neg h3, if_neg h3, ih _ (by omega) (by omega), ih _ (by omega) (by omega)]
theorem lst_eq {S : Nat → Int32} (hW : CW S) {i : Nat} (hi : i < nS S) : lst S i = if S (11 + 19 * i) = 4 then gI S (12 + 19 * i) else if S (11 + 19 * i) = 3 then lst S (S (12 + 19 * i)).toInt.toNat else max (lst S (S (12 + 19 * i)).toInt.toNat) (lst S (S (13 + 19 * i)).toInt.toNat) := by
  have h8 := hW.1
  unfold lst
  rw [← lstF_f hW 8 i (by omega) hi]
  rfl
theorem srcF_f {S : Nat → Int32} (hW : CW S) : ∀ (f i : Nat), i < f → i < nS S → srcF S (f + 1) i = srcF S f i := by
  intro f
  induction f with
  | zero => intro i h; omega
  | succ f ih =>
    intro i hf hi
    show (if S (11 + 19 * i) = 4 then i else srcF S (f + 1) (S (12 + 19 * i)).toInt.toNat) = (if S (11 + 19 * i) = 4 then i else srcF S f (S (12 + 19 * i)).toInt.toNat)
    by_cases h4 : S (11 + 19 * i) = 4
    · rw [if_pos h4, if_pos h4]
    · have h1 := WP_1 (hW.2 i hi) h4
      rw [if_neg h4, if_neg h4, ih _ (by omega) (by omega)]
theorem src_eq {S : Nat → Int32} (hW : CW S) {i : Nat} (hi : i < nS S) : src S i = if S (11 + 19 * i) = 4 then i else src S (S (12 + 19 * i)).toInt.toNat := by
  have h8 := hW.1
  unfold src
  rw [← srcF_f hW 8 i (by omega) hi]
  rfl
/-- the first input, and the second (of a mean: the first again) -/
def inA (S : Nat → Int32) (m : Nat) : Nat := (S (12 + 19 * m)).toInt.toNat
def inB (S : Nat → Int32) (m : Nat) : Nat := if S (11 + 19 * m) = 3 then inA S m else (S (13 + 19 * m)).toInt.toNat
theorem inA_lt {S : Nat → Int32} (hW : CW S) {m : Nat} (hm : m < nS S) (h4 : S (11 + 19 * m) ≠ 4) : inA S m < m := WP_1 (hW.2 m hm) h4
theorem inB_lt {S : Nat → Int32} (hW : CW S) {m : Nat} (hm : m < nS S) (h4 : S (11 + 19 * m) ≠ 4) : inB S m < m := by
  unfold inB
  by_cases h3 : S (11 + 19 * m) = 3
  · rw [if_pos h3]; exact inA_lt hW hm h4
  · rw [if_neg h3]; exact WP_2 (hW.2 m hm) h4 h3
theorem lst_A {S : Nat → Int32} (hW : CW S) {m : Nat} (hm : m < nS S) (h4 : S (11 + 19 * m) ≠ 4) : lst S (inA S m) ≤ lst S m ∧ lst S (inB S m) ≤ lst S m := by
  rw [lst_eq hW hm, if_neg h4]
  unfold inB inA
  by_cases h3 : S (11 + 19 * m) = 3
  · rw [if_pos h3, if_pos h3]; omega
  · rw [if_neg h3, if_neg h3]; omega
theorem dn_A {S : Nat → Int32} {m : Nat} {d : Nat → Int32} : dnS S m d = if S (11 + 19 * m) ≠ 4 ∧ d m ≠ -9 then upS (upS d (inA S m) (less (d (inA S m)) (d m))) (inB S m) (less (upS d (inA S m) (less (d (inA S m)) (d m)) (inB S m)) (upS d (inA S m) (less (d (inA S m)) (d m)) m)) else d := rfl
theorem dn_le {S : Nat → Int32} (hW : CW S) {m : Nat} (hm : m < nS S) {d : Nat → Int32} : ∀ x, dle (dnS S m d x) (d x) := by
  intro x
  rw [dn_A]
  by_cases hc : S (11 + 19 * m) ≠ 4 ∧ d m ≠ -9
  · rw [if_pos hc]
    have a1 : ∀ x, dle (upS d (inA S m) (less (d (inA S m)) (d m)) x) (d x) := fun x => by
      by_cases e : x = inA S m
      · rw [upS_h e, e]; exact less_1
      · rw [upS_m e]; exact dle_rfl
    by_cases e : x = inB S m
    · rw [upS_h e, ← e]
      exact dle_tr less_1 (a1 x)
    · rw [upS_m e]
      exact a1 x
  · rw [if_neg hc]; exact dle_rfl
theorem dn_st {S : Nat → Int32} (hW : CW S) {m : Nat} (hm : m < nS S) {d : Nat → Int32} {x : Nat} (hx : m ≤ x) : dnS S m d x = d x := by
  rw [dn_A]
  by_cases hc : S (11 + 19 * m) ≠ 4 ∧ d m ≠ -9
  · have h1 := inA_lt hW hm hc.1
    have h2 := inB_lt hW hm hc.1
    rw [if_pos hc, upS_m (by omega), upS_m (by omega)]
  · rw [if_neg hc]
theorem dn_in {S : Nat → Int32} (hW : CW S) {m : Nat} (hm : m < nS S) {d : Nat → Int32} (h4 : S (11 + 19 * m) ≠ 4) : dle (dnS S m d (inA S m)) (d m) ∧ dle (dnS S m d (inB S m)) (d m) := by
  rw [dn_A]
  by_cases h9 : d m = -9
  · exact ⟨fun h => absurd h9 h, fun h => absurd h9 h⟩
  · have h1 := inA_lt hW hm h4
    rw [if_pos ⟨h4, h9⟩]
    constructor
    · by_cases e : inA S m = inB S m
      · rw [upS_h e]
        refine dle_tr less_1 ?_
        rw [upS_h e.symm]
        exact less_2
      · rw [upS_m e, upS_h rfl]
        exact less_2
    · rw [upS_h rfl, upS_m (j := m) (by omega)]
      exact less_2
/-- what may stand among the demands -/
def dok (S : Nat → Int32) (x : Nat) (v : Int32) : Prop := v = -9 ∨ (lst S x ≤ v.toInt ∧ 1 ≤ v.toInt ∧ v.toInt ≤ 400)
theorem dn_ok {S : Nat → Int32} (hW : CW S) {m : Nat} (hm : m < nS S) {d : Nat → Int32} (h : ∀ x, x < nS S → dok S x (d x)) : ∀ x, x < nS S → dok S x (dnS S m d x) := by
  intro x hx
  rw [dn_A]
  by_cases hc : S (11 + 19 * m) ≠ 4 ∧ d m ≠ -9
  · have hl := lst_A hW hm hc.1
    have hA := inA_lt hW hm hc.1
    have hdm := h m hm
    rw [if_pos hc]
    have a1 : ∀ x, x < nS S → dok S x (upS d (inA S m) (less (d (inA S m)) (d m)) x) := fun x hx => by
      by_cases e : x = inA S m
      · rw [upS_h e]
        rcases less_or (d (inA S m)) (d m) with e2 | e2
        · rw [e2, ← e]; exact h x hx
        · rw [e2]
          rcases hdm with h9 | h9
          · exact absurd h9 hc.2
          · refine Or.inr ⟨?_, h9.2⟩
            rw [e]
            omega
      · rw [upS_m e]; exact h x hx
    by_cases e : x = inB S m
    · rw [upS_h e, upS_m (j := m) (by omega)]
      rcases less_or (upS d (inA S m) (less (d (inA S m)) (d m)) (inB S m)) (d m) with e2 | e2
      · rw [e2, ← e]; exact a1 x hx
      · rw [e2]
        rcases hdm with h9 | h9
        · exact absurd h9 hc.2
        · refine Or.inr ⟨?_, h9.2⟩
          rw [e]
          omega
    · rw [upS_m e]
      exact a1 x hx
  · rw [if_neg hc]; exact h x hx
theorem dmS_ok {S : Nat → Int32} (hW : CW S) (hC : CL S) : ∀ j, j ≤ nS S → ∀ x, x < nS S → dok S x (dmS S j x) := by
  intro j
  have h8 := hW.1
  induction j with
  | zero =>
    intro _ x hx
    exact ask_in hC (by omega) 8 (Nat.le_refl _)
  | succ j ih =>
    intro hj x hx
    rw [dmS_dn (m := nS S - 1 - j) (by omega)]
    exact dn_ok hW (by omega) (ih (by omega)) x hx
theorem dm_ok {S : Nat → Int32} (hW : CW S) (hC : CL S) {x : Nat} (hx : x < nS S) : dok S x (dm S x) := dmS_ok hW hC _ (Nat.le_refl _) x hx
theorem dmS_le {S : Nat → Int32} (hW : CW S) (x : Nat) : ∀ (t j : Nat), j + t ≤ nS S → dle (dmS S (j + t) x) (dmS S j x) := by
  intro t
  induction t with
  | zero => intro j _; exact dle_rfl
  | succ t ih =>
    intro j hj
    rw [show j + (t + 1) = (j + t) + 1 by omega, dmS_dn (m := nS S - 1 - (j + t)) (by omega)]
    exact dle_tr (dn_le hW (by omega) x) (ih j (by omega))
theorem dmS_st {S : Nat → Int32} (hW : CW S) {x : Nat} : ∀ (t j : Nat), j + t ≤ nS S → nS S - 1 - j ≤ x → dmS S (j + t) x = dmS S j x := by
  intro t
  induction t with
  | zero => intro j _ _; rfl
  | succ t ih =>
    intro j hj hx
    rw [show j + (t + 1) = (j + t) + 1 by omega, dmS_dn (m := nS S - 1 - (j + t)) (by omega), dn_st hW (by omega) (by omega)]
    exact ih j (by omega) hx
theorem dm_in {S : Nat → Int32} (hW : CW S) {m : Nat} (hm : m < nS S) (h4 : S (11 + 19 * m) ≠ 4) : dle (dm S (inA S m)) (dm S m) ∧ dle (dm S (inB S m)) (dm S m) := by
  have e1 : dm S m = dmS S (nS S - 1 - m) m := by
    unfold dm
    have := dmS_st hW (x := m) (nS S - (nS S - 1 - m)) (nS S - 1 - m) (by omega) (by omega)
    rw [show nS S - 1 - m + (nS S - (nS S - 1 - m)) = nS S by omega] at this
    exact this
  have h2 := dn_in hW hm (d := dmS S (nS S - 1 - m)) h4
  have e2 : dmS S (nS S - 1 - m + 1) = dnS S m (dmS S (nS S - 1 - m)) := dmS_dn (by omega)
  have h3 : ∀ x, dle (dm S x) (dmS S (nS S - 1 - m + 1) x) := fun x => by
    have := dmS_le hW x (nS S - (nS S - 1 - m + 1)) (nS S - 1 - m + 1) (by omega)
    rw [show nS S - 1 - m + 1 + (nS S - (nS S - 1 - m + 1)) = nS S by omega] at this
    exact this
  rw [e1]
  constructor
  · have := h3 (inA S m)
    rw [e2] at this
    exact dle_tr this h2.1
  · have := h3 (inB S m)
    rw [e2] at this
    exact dle_tr this h2.2
theorem dm_src {S : Nat → Int32} (hW : CW S) : ∀ (N i : Nat), i < N → i < nS S → dle (dm S (src S i)) (dm S i) := by
  intro N
  induction N with
  | zero => intro i h; omega
  | succ N ih =>
    intro i hN hi
    rw [src_eq hW hi]
    by_cases h4 : S (11 + 19 * i) = 4
    · rw [if_pos h4]; exact dle_rfl
    · have h1 := inA_lt hW hi h4
      rw [if_neg h4]
      exact dle_tr (ih (inA S i) (by omega) (by omega)) (dm_in hW hi h4).1
theorem supL_in {steps d : Int32} (hd : d.toInt ≤ 400) : ∀ (f : Nat) (p k : Int32), 1 ≤ p.toInt → p.toInt ≤ d.toInt → 1 ≤ (supL steps d f p k).toInt ∧ (supL steps d f p k).toInt ≤ d.toInt := by
  intro f
  induction f with
  | zero => intro p k h1 h2; exact ⟨h1, h2⟩
  | succ f ih =>
    intro p k h1 h2
    show 1 ≤ (if k < steps ∧ 2 * p ≤ d then supL steps d f (2 * p) (k + 1) else p).toInt ∧ (if k < steps ∧ 2 * p ≤ d then supL steps d f (2 * p) (k + 1) else p).toInt ≤ d.toInt
    by_cases h : k < steps ∧ 2 * p ≤ d
    · rw [if_pos h]
      have e2 : (2 * p).toInt = 2 * p.toInt := tM (by show _ ≤ (2 : Int) * p.toInt; omega) (by show (2 : Int) * p.toInt < _; omega)
      have h3 := h.2
      rw [Int32.le_iff_toInt_le] at h3
      exact ih _ _ (by omega) (by omega)
    · rw [if_neg h]
      exact ⟨h1, h2⟩
/-- a period lies between 1 and the demand -/
theorem pd_in {S : Nat → Int32} (hW : CW S) (hC : CL S) {i : Nat} (hi : i < nS S) (h9 : dm S i ≠ -9) : 1 ≤ (pd S i).toInt ∧ (pd S i).toInt ≤ (dm S i).toInt := by
  have hs := src_le hW hi
  have h1 := dm_src hW (i + 1) i (by omega) hi h9
  have h2 := dm_ok hW hC (x := src S i) (by omega)
  have h4 := src_4 hW hi
  rcases h2 with h2 | h2
  · exact absurd h2 h1.1
  · rw [lst_eq hW (i := src S i) (by omega), if_pos h4] at h2
    have hq : 1 ≤ gI S (12 + 19 * src S i) := by
      rcases hW.2 (src S i) (by omega) with h | h
      · exact h.2.1.1
      · unfold gI at h
        rw [h4] at h
        exact absurd h.1.2 (by decide)
    unfold pd sup
    rw [if_neg h9, if_neg h1.1]
    unfold gI at h2 hq
    have := supL_in (steps := S (13 + 19 * src S i)) h2.2.2 8 (S (12 + 19 * src S i)) 1 hq h2.1
    exact ⟨this.1, by omega⟩
theorem pd_9 {S : Nat → Int32} (hW : CW S) (hC : CL S) {i : Nat} (hi : i < nS S) : pd S i = -9 ↔ dm S i = -9 := by
  constructor
  · intro h
    refine Classical.byContradiction fun h9 => ?_
    have := pd_in hW hC hi h9
    rw [h, m9T] at this
    omega
  · intro h
    unfold pd
    rw [if_pos h]
/-- what a client asks is a demand of its sensor -/
theorem dm_cl {S : Nat → Int32} (hW : CW S) (hC : CL S) {j : Nat} (hj : j < 8) (h1 : S (163 + 27 * j) = 1) : dm S (S (164 + 27 * j)).toInt.toNat ≠ -9 ∧ (dm S (S (164 + 27 * j)).toInt.toNat).toInt ≤ gI S (165 + 27 * j) := by
  have h2 := hC j hj h1
  have h3 := ask_le h1 (toNI h2.1.1) 8 hj
  have h4 := dmS_le hW (S (164 + 27 * j)).toInt.toNat (nS S) 0 (by omega)
  rw [Nat.zero_add] at h4
  have h5 := dle_tr h4 h3
  refine h5 (fun e => ?_)
  have := h2.2.1.1
  unfold gI at this
  rw [e, m9T] at this
  omega
