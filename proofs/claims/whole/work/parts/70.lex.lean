/-! the text's tokens: one pure reading of the codes; the class's own -/
def spn (c : Nat → Int32) (P : Int32 → Bool) : Nat → Nat → Nat
  | 0, p => p
  | n + 1, p => if P (c p) = true then spn c P n (p + 1) else p
def pSp (x : Int32) : Bool := decide (x = 32)
def pLe (x : Int32) : Bool := decide (97 ≤ x ∧ x ≤ 122)
def pDi (x : Int32) : Bool := decide (48 ≤ x ∧ x ≤ 57)
def chA (c : Nat → Int32) (L i : Nat) : Int32 := if i < L then c i else 0
def tks (c : Nat → Int32) (L b : Nat) : Nat := spn c pSp (L - b) b
def tkd (c : Nat → Int32) (L b : Nat) : Nat := if tks c L b < L then (if pLe (c (tks c L b)) = true then 1 else if pDi (c (tks c L b)) = true then 2 else 3) else 0
def tke (c : Nat → Int32) (L b : Nat) : Nat := if tks c L b < L then (if pLe (c (tks c L b)) = true then spn c pLe (L - tks c L b) (tks c L b) else if pDi (c (tks c L b)) = true then spn c pDi (L - tks c L b) (tks c L b) else tks c L b + 1) else tks c L b
theorem spn_le {c : Nat → Int32} {P : Int32 → Bool} : ∀ n p, p ≤ spn c P n p ∧ spn c P n p ≤ p + n := by
  intro n
  induction n with
  | zero => exact fun p => ⟨Nat.le_refl _, Nat.le_refl _⟩
  | succ n ih =>
    intro p
    unfold spn
    by_cases h : P (c p) = true
    · rw [if_pos h]
      have := ih (p + 1)
      omega
    · rw [if_neg h]
      omega
theorem spn_s {c : Nat → Int32} {P : Int32 → Bool} {n p : Nat} (hn : 0 < n) (h : P (c p) = true) : spn c P n p = spn c P (n - 1) (p + 1) := by
  obtain ⟨m, rfl⟩ : ∃ m, n = m + 1 := ⟨n - 1, by omega⟩
  show (if P (c p) = true then spn c P m (p + 1) else p) = _
  rw [if_pos h]
  rfl
theorem tks_b {c : Nat → Int32} {L b : Nat} (hb : b ≤ L) : b ≤ tks c L b ∧ tks c L b ≤ L := by
  have := spn_le (c := c) (P := pSp) (L - b) b
  unfold tks
  omega
theorem tke_b {c : Nat → Int32} {L b : Nat} (hb : b ≤ L) : tks c L b ≤ tke c L b ∧ tke c L b ≤ L ∧ (tks c L b < L → tks c L b < tke c L b) := by
  have h1 := tks_b (c := c) hb
  unfold tke
  by_cases h : tks c L b < L
  · rw [if_pos h]
    by_cases h2 : pLe (c (tks c L b)) = true
    · rw [if_pos h2, spn_s (by omega) h2]
      have := spn_le (c := c) (P := pLe) (L - tks c L b - 1) (tks c L b + 1)
      omega
    · rw [if_neg h2]
      by_cases h3 : pDi (c (tks c L b)) = true
      · rw [if_pos h3, spn_s (by omega) h3]
        have := spn_le (c := c) (P := pDi) (L - tks c L b - 1) (tks c L b + 1)
        omega
      · rw [if_neg h3]
        omega
  · rw [if_neg h]
    omega
theorem wr_wr {σ : Mem} {v k : Nat} {x y : Int32} : wr (wr σ v k x) v k y = wr σ v k y := by
  funext b j
  unfold wr
  by_cases e : b = v ∧ j = k
  · rw [if_pos e, if_pos e]
  · rw [if_neg e, if_neg e, if_neg e]
/-- the class's text -/
def TX (σ : Mem) (c : Nat → Int32) (L : Nat) : Prop := σ 297 0 = nI L ∧ σ 298 = c ∧ L ≤ 160 ∧ ∀ k, k < L → c k ≠ 0
theorem TX_k {σ σ' : Mem} {c : Nat → Int32} {L : Nat} (h0 : σ' 297 0 = σ 297 0) (h1 : σ' 298 = σ 298) (h : TX σ c L) : TX σ' c L := ⟨h0.trans h.1, h1.trans h.2.1, h.2.2⟩
theorem codeAt_s {σ : Mem} {c : Nat → Int32} {L p : Nat} (h : TX σ c L) (hp : p < 2000) : f_Txt_codeAt 297 (nI p) σ = some (chA c L p, σ) := by
  obtain ⟨h1, h2, h3, h4⟩ := h
  unfold f_Txt_codeAt
  rw [if_neg (show ¬ nI p < 0 from nI_nlt (b := 0) (Nat.zero_le _) (by omega)), h1]
  unfold chA
  by_cases hl : p < L
  · rw [if_neg (nI_ge hl (by omega)), if_neg (show ¬ (160 : Int32) ≤ nI p from nI_ge (a := p) (b := 160) (by omega) (by decide)), if_pos (ib_nI (by omega) (by decide)), nI_clamp (by omega), if_pos hl, show (297 + 1 : Nat) = 298 from rfl, h2]
  · rw [if_pos (nI_le (by omega) (by omega)), if_neg hl]
def tyO (x : Int32) : Int32 := if x = 0 then 0 else if pLe x = true then 1 else if pDi x = true then 2 else 3
theorem typeOf_s {x : Int32} {σ : Mem} : f_Txt_typeOf x σ = some (tyO x, σ) := by
  unfold f_Txt_typeOf tyO pLe pDi
  by_cases h0 : x = 0
  · rw [if_pos h0, if_pos h0]
  rw [if_neg h0, if_neg h0]
  simp only [decide_eq_true_eq, Int32.le_iff_toInt_le, Int32.lt_iff_toInt_lt]
  rw [show (97 : Int32).toInt = 97 by decide, show (122 : Int32).toInt = 122 by decide, show (48 : Int32).toInt = 48 by decide, show (57 : Int32).toInt = 57 by decide]
  by_cases h1 : x.toInt < 97
  · rw [if_pos h1, if_neg (show ¬ (97 ≤ x.toInt ∧ x.toInt ≤ 122) by omega)]
    by_cases h2 : x.toInt < 48
    · rw [if_pos h2, if_neg (show ¬ (48 ≤ x.toInt ∧ x.toInt ≤ 57) by omega)]
    · rw [if_neg h2]
      by_cases h3 : 57 < x.toInt
      · rw [if_pos h3, if_neg (show ¬ (48 ≤ x.toInt ∧ x.toInt ≤ 57) by omega)]
      · rw [if_neg h3, if_pos (show (48 ≤ x.toInt ∧ x.toInt ≤ 57) by omega)]
  · rw [if_neg h1]
    by_cases h2 : 122 < x.toInt
    · rw [if_pos h2, if_neg (show ¬ (97 ≤ x.toInt ∧ x.toInt ≤ 122) by omega), if_neg (show ¬ x.toInt < 48 by omega), if_pos (show 57 < x.toInt by omega), if_neg (show ¬ (48 ≤ x.toInt ∧ x.toInt ≤ 57) by omega)]
    · rw [if_neg h2, if_pos (show (97 ≤ x.toInt ∧ x.toInt ≤ 122) by omega)]
theorem nt8 {K : Mem → Option (Unit × Mem)} {c : Nat → Int32} {L : Nat} : ∀ (n f p : Nat) (σ : Mem), p + n = L → n < f → TX σ c L → σ 297 5 = nI p → L_Txt_nextToken_8 297 K f σ = K (wr σ 297 5 (nI (spn c pSp n p))) := by
  intro n
  induction n with
  | zero =>
    intro f p σ hp hf h h5
    obtain ⟨f, rfl⟩ : ∃ m, f = m + 1 := ⟨f - 1, by omega⟩
    have hL := h.2.2.1
    unfold L_Txt_nextToken_8
    rw [h5, h.1, if_pos (nI_le (by omega) (by omega)), show spn c pSp 0 p = p from rfl, wr_id h5]
  | succ n ih =>
    intro f p σ hp hf h h5
    obtain ⟨f, rfl⟩ : ∃ m, f = m + 1 := ⟨f - 1, by omega⟩
    have hL := h.2.2.1
    unfold L_Txt_nextToken_8 spn
    rw [h5, h.1, if_neg (nI_ge (by omega) (by omega)), bd_eq (codeAt_s h (by omega)), chA, if_pos (show p < L by omega)]
    by_cases hc : c p = 32
    · rw [if_pos hc, if_pos (show pSp (c p) = true from decide_eq_true hc), lt_eq, h5, ← nI_succ, ih f (p + 1) _ (by omega) (by omega) (TX_k (wr_m (by omega)) (wr_other (by omega)) h) (wr_h rfl rfl), wr_wr]
    · rw [if_neg hc, if_neg (show ¬ pSp (c p) = true from fun e => hc (of_decide_eq_true e)), wr_id h5]
theorem nt107 {K : Mem → Option (Unit × Mem)} {c : Nat → Int32} {L : Nat} {P : Int32 → Bool} {t : Int32} (hP : ∀ x : Int32, x ≠ 0 → (tyO x = t ↔ P x = true)) : ∀ (n f p : Nat) (σ : Mem), p + n = L → n < f → TX σ c L → σ 297 5 = nI p → σ 297 3 = t → L_Txt_nextToken_107 297 1 K f σ = K (wr σ 297 5 (nI (spn c P n p))) := by
  intro n
  induction n with
  | zero =>
    intro f p σ hp hf h h5 h3
    obtain ⟨f, rfl⟩ : ∃ m, f = m + 1 := ⟨f - 1, by omega⟩
    have hL := h.2.2.1
    unfold L_Txt_nextToken_107
    rw [if_neg (by decide), h5, h.1, if_pos (nI_le (by omega) (by omega)), show spn c P 0 p = p from rfl, wr_id h5]
  | succ n ih =>
    intro f p σ hp hf h h5 h3
    obtain ⟨f, rfl⟩ : ∃ m, f = m + 1 := ⟨f - 1, by omega⟩
    have hL := h.2.2.1
    unfold L_Txt_nextToken_107 spn
    rw [if_neg (by decide), h5, h.1, if_neg (nI_ge (by omega) (by omega)), bd_eq (codeAt_s h (by omega)), chA, if_pos (show p < L by omega), bd_eq typeOf_s, h3]
    have hx := hP (c p) (h.2.2.2 p (by omega))
    by_cases hc : tyO (c p) = t
    · rw [if_pos hc, if_pos (hx.mp hc), lt_eq, h5, ← nI_succ, ih f (p + 1) _ (by omega) (by omega) (TX_k (wr_m (by omega)) (wr_other (by omega)) h) (wr_h rfl rfl) (by rw [wr_m (by omega)]; exact h3), wr_wr]
    · rw [if_neg hc, if_neg (fun e => hc (hx.mpr e)), wr_id h5]
theorem ty1 : ∀ x : Int32, x ≠ 0 → (tyO x = 1 ↔ pLe x = true) := fun x hx => by
  unfold tyO
  rw [if_neg hx]
  by_cases h : pLe x = true
  · rw [if_pos h]; exact ⟨fun _ => h, fun _ => rfl⟩
  · rw [if_neg h]
    by_cases h2 : pDi x = true
    · rw [if_pos h2]; exact ⟨fun e => absurd e (by decide), fun e => absurd e h⟩
    · rw [if_neg h2]; exact ⟨fun e => absurd e (by decide), fun e => absurd e h⟩
theorem le_di {x : Int32} (h : pLe x = true) : ¬ pDi x = true := fun h2 => by
  have h1 := of_decide_eq_true h
  have h3 := of_decide_eq_true h2
  simp only [Int32.le_iff_toInt_le] at h1 h3
  rw [show (97 : Int32).toInt = 97 by decide] at h1
  rw [show (57 : Int32).toInt = 57 by decide] at h3
  omega
theorem ty2 : ∀ x : Int32, x ≠ 0 → (tyO x = 2 ↔ pDi x = true) := fun x hx => by
  unfold tyO
  rw [if_neg hx]
  by_cases h : pLe x = true
  · rw [if_pos h]; exact ⟨fun e => absurd e (by decide), fun e => absurd e (le_di h)⟩
  · rw [if_neg h]
    by_cases h2 : pDi x = true
    · rw [if_pos h2]; exact ⟨fun _ => h2, fun _ => rfl⟩
    · rw [if_neg h2]; exact ⟨fun e => absurd e (by decide), fun e => absurd e h2⟩
theorem tyA {c : Nat → Int32} {L b : Nat} (hc : ∀ k, k < L → c k ≠ 0) : tyO (chA c L (tks c L b)) = nI (tkd c L b) := by
  unfold chA tkd
  by_cases h : tks c L b < L
  · rw [if_pos h, if_pos h]
    unfold tyO
    rw [if_neg (hc _ h)]
    by_cases h1 : pLe (c (tks c L b)) = true
    · rw [if_pos h1, if_pos h1]; rfl
    · rw [if_neg h1, if_neg h1]
      by_cases h2 : pDi (c (tks c L b)) = true
      · rw [if_pos h2, if_pos h2]; rfl
      · rw [if_neg h2, if_neg h2]; rfl
  · rw [if_neg h, if_neg h]
    rfl
theorem next_s {σ : Mem} {c : Nat → Int32} {L b : Nat} (h : TX σ c L) (hb : b ≤ L) (h2 : σ 297 2 = 0) (h5 : σ 297 5 = nI b) : f_Txt_nextToken 297 σ = some ((), wr (wr (wr (wr σ 297 5 (nI (tks c L b))) 297 4 (nI (tks c L b))) 297 3 (nI (tkd c L b))) 297 5 (nI (tke c L b))) := by
  have hL := h.2.2.1
  have hs := tks_b (c := c) hb
  unfold f_Txt_nextToken
  rw [if_pos h2, nt8 (L - b) FU b σ (by omega) (by unfold FU; omega) h h5]
  rw [show spn c pSp (L - b) b = tks c L b from rfl, lt_eq, wr_h rfl rfl]
  have hA : TX (wr (wr σ 297 5 (nI (tks c L b))) 297 4 (nI (tks c L b))) c L := TX_k (by rw [wr_m (by omega), wr_m (by omega)]) (by rw [wr_other (by omega), wr_other (by omega)]) h
  rw [wr_h rfl rfl, bd_eq (codeAt_s hA (by omega)), bd_eq typeOf_s, tyA h.2.2.2, lt_eq, wr_h rfl rfl]
  have hB : TX (wr (wr (wr σ 297 5 (nI (tks c L b))) 297 4 (nI (tks c L b))) 297 3 (nI (tkd c L b))) c L := TX_k (wr_m (by omega)) (wr_other (by omega)) hA
  have hB5 : wr (wr (wr σ 297 5 (nI (tks c L b))) 297 4 (nI (tks c L b))) 297 3 (nI (tkd c L b)) 297 5 = nI (tks c L b) := by rw [wr_m (by omega), wr_m (by omega), wr_h rfl rfl]
  have hB3 : wr (wr (wr σ 297 5 (nI (tks c L b))) 297 4 (nI (tks c L b))) 297 3 (nI (tkd c L b)) 297 3 = nI (tkd c L b) := wr_h rfl rfl
  revert hB hB5 hB3
  generalize wr (wr (wr σ 297 5 (nI (tks c L b))) 297 4 (nI (tks c L b))) 297 3 (nI (tkd c L b)) = τ
  intro hB hB5 hB3
  unfold tkd at hB3 ⊢
  unfold tke
  by_cases hl : tks c L b < L
  · rw [if_pos hl] at hB3 ⊢
    rw [if_pos hl]
    have hB6 : TX (wr τ 297 5 (nI (tks c L b + 1))) c L := TX_k (wr_m (by omega)) (wr_other (by omega)) hB
    have hB7 : wr τ 297 5 (nI (tks c L b + 1)) 297 3 = τ 297 3 := wr_m (by omega)
    by_cases h1 : pLe (c (tks c L b)) = true
    · rw [if_pos h1] at hB3 ⊢
      rw [if_pos h1, if_neg (show ¬ nI 1 = 0 by decide), lt_eq, hB5, ← nI_succ, hB7, hB3, if_pos (show nI 1 = 1 from rfl), nt107 ty1 (L - (tks c L b + 1)) FU (tks c L b + 1) _ (by omega) (by unfold FU; omega) hB6 (wr_h rfl rfl) (hB7.trans hB3), wr_wr, spn_s (by omega) h1, show L - (tks c L b + 1) = L - tks c L b - 1 by omega]
    · rw [if_neg h1] at hB3 ⊢
      rw [if_neg h1]
      by_cases h3 : pDi (c (tks c L b)) = true
      · rw [if_pos h3] at hB3 ⊢
        rw [if_pos h3, if_neg (show ¬ nI 2 = 0 by decide), lt_eq, hB5, ← nI_succ, hB7, hB3, if_neg (show ¬ nI 2 = 1 by decide), if_pos (show nI 2 = 2 from rfl), nt107 ty2 (L - (tks c L b + 1)) FU (tks c L b + 1) _ (by omega) (by unfold FU; omega) hB6 (wr_h rfl rfl) (hB7.trans hB3), wr_wr, spn_s (by omega) h3, show L - (tks c L b + 1) = L - tks c L b - 1 by omega]
      · rw [if_neg h3] at hB3 ⊢
        rw [if_neg h3, if_neg (show ¬ nI 3 = 0 by decide), lt_eq, hB5, ← nI_succ, hB7, hB3, if_neg (show ¬ nI 3 = 1 by decide), if_neg (show ¬ nI 3 = 2 by decide)]
        rw [show FU = (FU - 1) + 1 by rfl]
        unfold L_Txt_nextToken_107
        rw [if_pos rfl]
  · rw [if_neg hl] at hB3 ⊢
    rw [if_neg hl, if_pos (show nI 0 = 0 from rfl), if_neg (show ¬ nI 0 = 1 by decide), if_neg (show ¬ nI 0 = 2 by decide), wr_id hB5]
    rw [show FU = (FU - 1) + 1 by rfl]
    unfold L_Txt_nextToken_107
    rw [if_pos rfl]
theorem next_f {σ : Mem} (h2 : ¬ σ 297 2 = 0) : f_Txt_nextToken 297 σ = some ((), σ) := by
  unfold f_Txt_nextToken
  rw [if_neg h2]
