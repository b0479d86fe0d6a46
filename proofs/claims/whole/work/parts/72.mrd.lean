/-! the reference: a token is read -/
def TM (τ : Mem) (c : Nat → Int32) (L : Nat) : Prop := τ 299 5 = nI L ∧ (∀ k, k < L → τ 302 k = c k) ∧ L ≤ 160 ∧ ∀ k, k < L → 1 ≤ (c k).toInt ∧ (c k).toInt ≤ 255
def X9 (τ τ' : Mem) : Prop := (∀ w, w ≠ 299 → τ' w = τ w) ∧ ∀ k, (k < 11 ∨ 15 < k) → τ' 299 k = τ 299 k
theorem X9_r {τ : Mem} : X9 τ τ := ⟨fun _ _ => rfl, fun _ _ => rfl⟩
theorem X9_t {τ τ' τ'' : Mem} (h : X9 τ τ') (h' : X9 τ' τ'') : X9 τ τ'' := ⟨fun w hw => (h'.1 w hw).trans (h.1 w hw), fun k hk => (h'.2 k hk).trans (h.2 k hk)⟩
theorem X9_w {τ : Mem} {k : Nat} {x : Int32} (hk : 11 ≤ k ∧ k ≤ 15) : X9 τ (wr τ 299 k x) := ⟨fun w hw => wr_other hw, fun j hj => wr_m (by omega)⟩
theorem X9_T {τ τ' : Mem} {c : Nat → Int32} {L : Nat} (h : X9 τ τ') (hT : TM τ c L) : TM τ' c L := ⟨(h.2 5 (by omega)).trans hT.1, fun k hk => by rw [h.1 302 (by decide)]; exact hT.2.1 k hk, hT.2.2⟩
def heA (c : Nat → Int32) (L p : Nat) : Int32 := if p < L then c p else -1
theorem here_s {τ : Mem} {c : Nat → Int32} {L p : Nat} (h : TM τ c L) (h11 : τ 299 11 = nI p) (hp : p ≤ L) : f_M_here 299 τ = some (heA c L p, τ) := by
  have hL := h.2.2.1
  unfold f_M_here heA
  rw [h.1, h11]
  by_cases hl : p < L
  · rw [if_neg (nI_ge hl (by omega)), if_pos (ib_nI (by omega) (by decide)), nI_clamp (by omega), if_pos hl, show (299 + 3 : Nat) = 302 from rfl, h.2.1 p hl]
  · rw [if_pos (nI_le (by omega) (by omega)), if_neg hl]
theorem in_le {x : Int32} : (if (97 : Int32) ≤ x ∧ x ≤ 122 then (1 : Int32) else 0) = if pLe x = true then 1 else 0 := by
  unfold pLe
  simp only [decide_eq_true_eq]
theorem in_di {x : Int32} : (if (48 : Int32) ≤ x ∧ x ≤ 57 then (1 : Int32) else 0) = if pDi x = true then 1 else 0 := by
  unfold pDi
  simp only [decide_eq_true_eq]
theorem hLe {c : Nat → Int32} {L p : Nat} : pLe (heA c L p) = true ↔ p < L ∧ pLe (c p) = true := by
  unfold heA
  by_cases h : p < L
  · rw [if_pos h]; exact ⟨fun e => ⟨h, e⟩, fun e => e.2⟩
  · rw [if_neg h]; exact ⟨fun e => absurd e (by decide), fun e => absurd e.1 h⟩
theorem hDi {c : Nat → Int32} {L p : Nat} : pDi (heA c L p) = true ↔ p < L ∧ pDi (c p) = true := by
  unfold heA
  by_cases h : p < L
  · rw [if_pos h]; exact ⟨fun e => ⟨h, e⟩, fun e => e.2⟩
  · rw [if_neg h]; exact ⟨fun e => absurd e (by decide), fun e => absurd e.1 h⟩
theorem spn_n {c : Nat → Int32} {P : Int32 → Bool} {L p : Nat} (h : ¬ (p < L ∧ P (c p) = true)) : spn c P (L - p) p = p := by
  by_cases hl : p < L
  · obtain ⟨m, e⟩ : ∃ m, L - p = m + 1 := ⟨L - p - 1, by omega⟩
    rw [e]
    unfold spn
    rw [if_neg (fun e => h ⟨hl, e⟩)]
  · rw [show L - p = 0 by omega]
    rfl
theorem spn_y {c : Nat → Int32} {P : Int32 → Bool} {L p : Nat} (h : p < L ∧ P (c p) = true) : spn c P (L - p) p = spn c P (L - (p + 1)) (p + 1) := by
  rw [spn_s (by omega) h.2, show L - p - 1 = L - (p + 1) by omega]
theorem read0 {K : Mem → Option (Unit × Mem)} {c : Nat → Int32} {L : Nat} : ∀ (n f p : Nat) (τ : Mem), p + n = L → n < f → TM τ c L → τ 299 11 = nI p → L_M_read_0 299 K f τ = K (wr τ 299 11 (nI (spn c pSp (L - p) p))) := by
  intro n
  induction n with
  | zero =>
    intro f p τ hp hf h h5
    obtain ⟨f, rfl⟩ : ∃ m, f = m + 1 := ⟨f - 1, by omega⟩
    unfold L_M_read_0
    rw [bd_eq (here_s h h5 (by omega)), heA, if_neg (show ¬ p < L by omega), if_neg (by decide), spn_n (by omega), wr_id h5]
  | succ n ih =>
    intro f p τ hp hf h h5
    obtain ⟨f, rfl⟩ : ∃ m, f = m + 1 := ⟨f - 1, by omega⟩
    unfold L_M_read_0
    rw [bd_eq (here_s h h5 (by omega)), heA, if_pos (show p < L by omega)]
    by_cases hc : c p = 32
    · rw [if_pos hc, spn_y ⟨by omega, decide_eq_true hc⟩, lt_eq, h5, ← nI_succ, ih f (p + 1) _ (by omega) (by omega) (X9_T (X9_w (by omega)) h) (wr_h rfl rfl), wr_wr]
    · rw [if_neg hc, spn_n (fun e => hc (of_decide_eq_true e.2)), wr_id h5]
theorem read70 {K : Mem → Option (Unit × Mem)} {c : Nat → Int32} {L : Nat} : ∀ (n f p : Nat) (τ : Mem), p + n = L → n < f → TM τ c L → τ 299 11 = nI p → L_M_read_70 299 K f τ = some ((), wr τ 299 11 (nI (spn c pLe (L - p) p))) := by
  intro n
  induction n with
  | zero =>
    intro f p τ hp hf h h5
    obtain ⟨f, rfl⟩ : ∃ m, f = m + 1 := ⟨f - 1, by omega⟩
    unfold L_M_read_70
    rw [bd_eq (here_s h h5 (by omega)), isIn, bd_some, in_le, if_neg (show ¬ pLe (heA c L p) = true from fun e => by have := (hLe.mp e).1; omega), if_pos rfl, spn_n (by omega), wr_id h5]
  | succ n ih =>
    intro f p τ hp hf h h5
    obtain ⟨f, rfl⟩ : ∃ m, f = m + 1 := ⟨f - 1, by omega⟩
    unfold L_M_read_70
    rw [bd_eq (here_s h h5 (by omega)), isIn, bd_some, in_le]
    by_cases hc : pLe (heA c L p) = true
    · rw [if_pos hc, if_neg i1n, spn_y (hLe.mp hc), lt_eq, h5, ← nI_succ, ih f (p + 1) _ (by omega) (by omega) (X9_T (X9_w (by omega)) h) (wr_h rfl rfl), wr_wr]
    · rw [if_neg hc, if_pos rfl, spn_n (fun e => hc (hLe.mpr e)), wr_id h5]
/-- the number that stands behind i digits -/
def rv (c : Nat → Int32) (L s i : Nat) : Int32 := if i ≤ 4 then fo c L s i else -1
theorem read116 {K : Mem → Option (Unit × Mem)} {c : Nat → Int32} {L s : Nat} : ∀ (n f i : Nat) (τ : Mem), s + i + n = L → n < f → TM τ c L → τ 299 11 = nI (s + i) → τ 299 12 = nI s → τ 299 14 = rv c L s i → ∃ τ', L_M_read_116 299 K f τ = K τ' ∧ (∀ w, w ≠ 299 → τ' w = τ w) ∧ (∀ k, k ≠ 11 → k ≠ 14 → τ' 299 k = τ 299 k) ∧ τ' 299 11 = nI (spn c pDi (L - (s + i)) (s + i)) ∧ τ' 299 14 = rv c L s (spn c pDi (L - (s + i)) (s + i) - s) := by
  intro n
  induction n with
  | zero =>
    intro f i τ hp hf h h5 h12 h14
    obtain ⟨f, rfl⟩ : ∃ m, f = m + 1 := ⟨f - 1, by omega⟩
    unfold L_M_read_116
    rw [bd_eq (here_s h h5 (by omega)), isIn, bd_some, in_di, if_neg (show ¬ pDi (heA c L (s + i)) = true from fun e => by have := (hDi.mp e).1; omega), if_pos rfl, spn_n (by omega)]
    exact ⟨τ, rfl, fun _ _ => rfl, fun _ _ _ => rfl, h5, by rw [h14, show s + i - s = i by omega]⟩
  | succ n ih =>
    intro f i τ hp hf h h5 h12 h14
    obtain ⟨f, rfl⟩ : ∃ m, f = m + 1 := ⟨f - 1, by omega⟩
    have hL := h.2.2.1
    unfold L_M_read_116
    rw [bd_eq (here_s h h5 (by omega)), isIn, bd_some, in_di]
    by_cases hc : pDi (heA c L (s + i)) = true
    · rw [if_pos hc, if_neg i1n, spn_y (hDi.mp hc), h5, h12, pk_sub (show s ≤ s + i by omega), show s + i - s = i by omega]
      have fin : ∀ v : Int32, v = rv c L s (i + 1) → ∃ τ', L_M_read_116 299 K f (wr (wr τ 299 14 v) 299 11 ((wr τ 299 14 v) 299 11 + 1)) = K τ' ∧ (∀ w, w ≠ 299 → τ' w = τ w) ∧ (∀ k, k ≠ 11 → k ≠ 14 → τ' 299 k = τ 299 k) ∧ τ' 299 11 = nI (spn c pDi (L - (s + i + 1)) (s + i + 1)) ∧ τ' 299 14 = rv c L s (spn c pDi (L - (s + i + 1)) (s + i + 1) - s) := fun v hv => by
        obtain ⟨τ', e, g1, g2, g3, g4⟩ := ih f (i + 1) (wr (wr τ 299 14 v) 299 11 ((wr τ 299 14 v) 299 11 + 1)) (by omega) (by omega) (X9_T (X9_t (X9_w (by omega)) (X9_w (by omega))) h) (by rw [wr_h rfl rfl, wr_m (by omega), h5, ← nI_succ]; rfl) (by rw [wr_m (by omega), wr_m (by omega), h12]) (by rw [wr_m (by omega), wr_h rfl rfl, hv])
        exact ⟨τ', e, fun w hw => by rw [g1 w hw, wr_other hw, wr_other hw], fun k k1 k2 => by rw [g2 k k1 k2, wr_m (by omega), wr_m (by omega)], g3, g4⟩
      by_cases h4 : 4 ≤ i
      · rw [if_pos (show (4 : Int32) ≤ nI i from nI_le (a := 4) h4 (by omega))]
        exact fin (-1) (by rw [rv, if_neg (by omega)])
      · rw [if_neg (show ¬ (4 : Int32) ≤ nI i from nI_ge (b := 4) (by omega) (by decide)), bd_eq (here_s h h5 (by omega)), h14]
        refine fin _ ?_
        rw [rv, if_pos (by omega), rv, if_pos (by omega), show heA c L (s + i) = chA c L (s + i) by unfold heA chA; rw [if_pos (by omega), if_pos (by omega)]]
        rfl
    · rw [if_neg hc, if_pos rfl, spn_n (fun e => hc (hDi.mpr e))]
      exact ⟨τ, rfl, fun _ _ => rfl, fun _ _ _ => rfl, h5, by rw [h14, show s + i - s = i by omega]⟩
def rdV (q : Nat) (σ35 : Mem) : Option (Unit × Mem) :=
  if (4 : Int32) < ((σ35 q 11) - (σ35 q 12)) then
    lt (wr σ35 q 14 (-1 : Int32)) fun σ36 =>
    some ((), σ36)
  else
    if ib (σ35 q 12) 160 then
      if (σ35 (q + 3) (σ35 q 12).toNatClampNeg) = (48 : Int32) then
        if ((σ35 q 11) - (σ35 q 12)) = (1 : Int32) then
          lt (wr σ35 q 14 (σ35 q 14)) fun σ37 =>
          some ((), σ37)
        else
          lt (wr σ35 q 14 (-1 : Int32)) fun σ38 =>
          some ((), σ38)
      else
        lt (wr σ35 q 14 (σ35 q 14)) fun σ39 =>
        some ((), σ39)
    else none
def rdD (F q : Nat) (σ16 : Mem) : Option (Unit × Mem) :=
  bd (f_M_here q σ16) fun r17 σ18 =>
  bd (f_M_in r17 (48 : Int32) (57 : Int32) σ18) fun r19 σ20 =>
  if r19 = 0 then
    bd (f_M_here q σ20) fun r21 σ22 =>
    if r21 < 0 then
      some ((), σ22)
    else
      lt (wr σ22 q 11 ((σ22 q 11) + (1 : Int32))) fun σ23 =>
      some ((), σ23)
  else
    lt (wr σ20 q 13 (1 : Int32)) fun σ24 =>
    L_M_read_116 q (rdV q) F σ24
def rdR (F q : Nat) (σ12 : Mem) : Option (Unit × Mem) :=
  bd (f_M_here q σ12) fun r13 σ14 =>
  bd (f_M_in r13 (97 : Int32) (122 : Int32) σ14) fun r15 σ16 =>
  if r15 = 0 then rdD F q σ16
  else
    lt (wr σ16 q 13 (0 : Int32)) fun σ40 =>
    L_M_read_70 q (rdD F q) F σ40
def rdT (F q : Nat) (σ7 : Mem) : Option (Unit × Mem) :=
  lt (wr σ7 q 12 (σ7 q 11)) fun σ8 =>
  bd (f_M_here q σ8) fun r9 σ10 =>
  if 0 ≤ r9 then
    lt (wr σ10 q 13 (2 : Int32)) fun σ11 =>
    lt (wr σ11 q 14 (0 : Int32)) fun σ12 => rdR F q σ12
  else
    lt (wr σ10 q 13 (3 : Int32)) fun σ60 =>
    lt (wr σ60 q 14 (0 : Int32)) fun σ61 => rdR F q σ61
theorem r0_s {q n : Nat} {K : Mem → Option (Unit × Mem)} {σ : Mem} : L_M_read_0 q K (n + 1) σ = bd (f_M_here q σ) fun r4 σ5 => if r4 = (32 : Int32) then lt (wr σ5 q 11 ((σ5 q 11) + (1 : Int32))) fun σ6 => L_M_read_0 q K n σ6 else K σ5 := rfl
def rdA (F q : Nat) (σ : Mem) : Option (Unit × Mem) := bd (f_M_here q σ) fun r4 σ5 => if r4 = (32 : Int32) then lt (wr σ5 q 11 ((σ5 q 11) + (1 : Int32))) fun σ6 => L_M_read_0 q (rdT F q) F σ6 else rdT F q σ5
theorem read_e {q : Nat} {σ : Mem} : f_M_read q σ = L_M_read_0 q (rdT FU q) (FU + 1) σ := by
  rw [r0_s]
  have h : f_M_read q σ = rdA FU q σ := by
    unfold f_M_read rdA rdT rdR rdD rdV
    rfl
  exact h
def rk : Nat → Int32
  | 0 => 3
  | 1 => 0
  | 2 => 1
  | _ => 2
def rval (c : Nat → Int32) (L b : Nat) : Int32 := if tkd c L b = 2 then (if bad c L (tks c L b) (tke c L b) then -1 else fo c L (tks c L b) (tke c L b - tks c L b)) else 0
def rH (τ : Mem) (c : Nat → Int32) (L : Nat) : Nat ⊕ Nat → Prop
  | .inl b => b ≤ L ∧ τ 299 15 = 0 ∧ τ 299 13 = rk (tkd c L b) ∧ τ 299 12 = nI (tks c L b) ∧ τ 299 11 = nI (tke c L b) ∧ τ 299 14 = rval c L b
  | .inr s => τ 299 15 = 1 ∧ τ 299 12 = nI s
theorem rdV_s {τ : Mem} {c : Nat → Int32} {L s e : Nat} (h : TM τ c L) (h11 : τ 299 11 = nI e) (h12 : τ 299 12 = nI s) (h14 : τ 299 14 = rv c L s (e - s)) (hs : s < L) (he : s < e ∧ e ≤ L) : ∃ τ', rdV 299 τ = some ((), τ') ∧ (∀ w, w ≠ 299 → τ' w = τ w) ∧ (∀ k, k ≠ 14 → τ' 299 k = τ 299 k) ∧ τ' 299 14 = if bad c L s e then -1 else fo c L s (e - s) := by
  have hL := h.2.2.1
  unfold rdV
  rw [h11, h12, pk_sub (show s ≤ e by omega), if_pos (ib_nI (by omega) (by decide)), nI_clamp (by omega), show (299 + 3 : Nat) = 302 from rfl, h.2.1 s hs, h14]
  have ec : chA c L s = c s := if_pos hs
  have no : bad c L s e → ∃ τ', some ((), wr τ 299 14 (-1)) = some ((), τ') ∧ (∀ w, w ≠ 299 → τ' w = τ w) ∧ (∀ k, k ≠ 14 → τ' 299 k = τ 299 k) ∧ τ' 299 14 = if bad c L s e then -1 else fo c L s (e - s) := fun hb => ⟨_, rfl, fun w hw => wr_other hw, fun k hk => wr_m (Or.inr hk), by rw [wr_h rfl rfl, if_pos hb]⟩
  by_cases h4 : 4 < e - s
  · rw [if_pos (show (4 : Int32) < nI (e - s) from nI_lt (a := 4) h4 (by omega))]
    exact no (Or.inl h4)
  · rw [if_neg (show ¬ (4 : Int32) < nI (e - s) from nI_nlt (a := 4) (b := e - s) (by omega) (by decide))]
    have yes : ¬ bad c L s e → ∃ τ', some ((), wr τ 299 14 (rv c L s (e - s))) = some ((), τ') ∧ (∀ w, w ≠ 299 → τ' w = τ w) ∧ (∀ k, k ≠ 14 → τ' 299 k = τ 299 k) ∧ τ' 299 14 = if bad c L s e then -1 else fo c L s (e - s) := fun hb => ⟨_, rfl, fun w hw => wr_other hw, fun k hk => wr_m (Or.inr hk), by rw [wr_h rfl rfl, if_neg hb, rv, if_pos (by omega)]⟩
    by_cases h5 : c s = 48
    · rw [if_pos h5]
      by_cases h1 : e - s = 1
      · rw [if_pos (show nI (e - s) = (1 : Int32) by rw [h1]; rfl)]
        exact yes (fun x => x.elim h4 (fun y => by omega))
      · rw [if_neg (show ¬ nI (e - s) = (1 : Int32) from fun x => h1 ((nI_eq (b := 1) (by omega) (by decide)).mp x))]
        exact no (Or.inr ⟨by omega, ec.trans h5⟩)
    · rw [if_neg h5]
      exact yes (fun x => x.elim h4 (fun y => h5 (ec.symm.trans y.2)))
theorem read_m {τ : Mem} {c : Nat → Int32} {L b : Nat} (h : TM τ c L) (h15 : τ 299 15 = 0) (h11 : τ 299 11 = nI b) (hb : b ≤ L) : ∃ τ', f_M_read 299 τ = some ((), τ') ∧ X9 τ τ' ∧ rH τ' c L (.inl b) := by
  have hL := h.2.2.1
  have hs := tks_b (c := c) hb
  have hd := h.2.2.2
  rw [read_e, read0 (L - b) (FU + 1) b τ (by omega) (by unfold FU; omega) h h11, show spn c pSp (L - b) b = tks c L b from rfl]
  unfold rdT
  have hA : TM (wr (wr τ 299 11 (nI (tks c L b))) 299 12 (nI (tks c L b))) c L := X9_T (X9_t (X9_w (by omega)) (X9_w (by omega))) h
  rw [lt_eq, wr_h rfl rfl, bd_eq (here_s hA (by rw [wr_m (by omega), wr_h rfl rfl]) hs.2)]
  simp only [lt_eq]
  have hr : ∀ x : Int32, (x = if tks c L b < L then 2 else 3) → ∃ τ', rdR FU 299 (wr (wr (wr (wr τ 299 11 (nI (tks c L b))) 299 12 (nI (tks c L b))) 299 13 x) 299 14 0) = some ((), τ') ∧ X9 τ τ' ∧ rH τ' c L (.inl b) := fun x hx => by
    have hB : TM (wr (wr (wr (wr τ 299 11 (nI (tks c L b))) 299 12 (nI (tks c L b))) 299 13 x) 299 14 0) c L := X9_T (X9_t (X9_w (by omega)) (X9_w (by omega))) hA
    have b11 : wr (wr (wr (wr τ 299 11 (nI (tks c L b))) 299 12 (nI (tks c L b))) 299 13 x) 299 14 0 299 11 = nI (tks c L b) := by rw [wr_m (by omega), wr_m (by omega), wr_m (by omega), wr_h rfl rfl]
    have b12 : wr (wr (wr (wr τ 299 11 (nI (tks c L b))) 299 12 (nI (tks c L b))) 299 13 x) 299 14 0 299 12 = nI (tks c L b) := by rw [wr_m (by omega), wr_m (by omega), wr_h rfl rfl]
    have b13 : wr (wr (wr (wr τ 299 11 (nI (tks c L b))) 299 12 (nI (tks c L b))) 299 13 x) 299 14 0 299 13 = x := by rw [wr_m (by omega), wr_h rfl rfl]
    have b14 : wr (wr (wr (wr τ 299 11 (nI (tks c L b))) 299 12 (nI (tks c L b))) 299 13 x) 299 14 0 299 14 = 0 := wr_h rfl rfl
    have b15 : wr (wr (wr (wr τ 299 11 (nI (tks c L b))) 299 12 (nI (tks c L b))) 299 13 x) 299 14 0 299 15 = 0 := by rw [wr_m (by omega), wr_m (by omega), wr_m (by omega), wr_m (by omega), h15]
    have bX : X9 τ (wr (wr (wr (wr τ 299 11 (nI (tks c L b))) 299 12 (nI (tks c L b))) 299 13 x) 299 14 0) := X9_t (X9_t (X9_w (by omega)) (X9_w (by omega))) (X9_t (X9_w (by omega)) (X9_w (by omega)))
    revert hB b11 b12 b13 b14 b15 bX
    generalize wr (wr (wr (wr τ 299 11 (nI (tks c L b))) 299 12 (nI (tks c L b))) 299 13 x) 299 14 0 = θ
    intro hB b11 b12 b13 b14 b15 bX
    unfold rdR
    rw [bd_eq (here_s hB b11 hs.2), isIn, bd_some, in_le]
    by_cases h1 : pLe (heA c L (tks c L b)) = true
    · obtain ⟨g1, g2⟩ := hLe.mp h1
      have ed : tkd c L b = 1 := by unfold tkd; rw [if_pos g1, if_pos g2]
      have ee : tke c L b = spn c pLe (L - tks c L b) (tks c L b) := by unfold tke; rw [if_pos g1, if_pos g2]
      rw [if_pos h1, if_neg i1n, lt_eq, read70 (L - tks c L b) FU (tks c L b) _ (by omega) (by unfold FU; omega) (X9_T (X9_w (by omega)) hB) (by rw [wr_m (by omega), b11]), ← ee]
      refine ⟨_, rfl, X9_t bX (X9_t (X9_w (by omega)) (X9_w (by omega))), hb, ?_, ?_, ?_, ?_, ?_⟩
      · rw [wr_m (by omega), wr_m (by omega), b15]
      · rw [wr_m (by omega), wr_h rfl rfl, ed]; rfl
      · rw [wr_m (by omega), wr_m (by omega), b12]
      · rw [wr_h rfl rfl]
      · rw [wr_m (by omega), wr_m (by omega), b14, rval, if_neg (by omega)]
    rw [if_neg h1, if_pos rfl]
    have h1' : ¬ (tks c L b < L ∧ pLe (c (tks c L b)) = true) := fun e => h1 (hLe.mpr e)
    unfold rdD
    rw [bd_eq (here_s hB b11 hs.2), isIn, bd_some, in_di]
    by_cases h2 : pDi (heA c L (tks c L b)) = true
    · obtain ⟨g1, g2⟩ := hDi.mp h2
      have ed : tkd c L b = 2 := by unfold tkd; rw [if_pos g1, if_neg (fun e => h1' ⟨g1, e⟩), if_pos g2]
      have ee : tke c L b = spn c pDi (L - tks c L b) (tks c L b) := by unfold tke; rw [if_pos g1, if_neg (fun e => h1' ⟨g1, e⟩), if_pos g2]
      have hte := tke_b (c := c) hb
      rw [if_pos h2, if_neg i1n, lt_eq]
      obtain ⟨υ, e1, u1, u2, u3, u4⟩ := read116 (K := rdV 299) (s := tks c L b) (L - tks c L b) FU 0 (wr θ 299 13 1) (by omega) (by unfold FU; omega) (X9_T (X9_w (by omega)) hB) (by rw [wr_m (by omega), b11]; rfl) (by rw [wr_m (by omega), b12]) (by rw [wr_m (by omega), b14]; rfl)
      rw [Nat.add_zero, ← ee] at u3 u4
      have hX2 : X9 (wr θ 299 13 1) υ := ⟨u1, fun k hk => u2 k (by omega) (by omega)⟩
      have hC : TM υ c L := X9_T (X9_t (X9_w (by omega)) hX2) hB
      obtain ⟨υ', e2, v1, v2, v3⟩ := rdV_s hC u3 (by rw [u2 12 (by omega) (by omega), wr_m (by omega), b12]) u4 g1 ⟨hte.2.2 g1, hte.2.1⟩
      rw [e1, e2]
      refine ⟨υ', rfl, X9_t bX (X9_t (X9_t (X9_w (by omega)) hX2) ⟨v1, fun k hk => v2 k (by omega)⟩), hb, ?_, ?_, ?_, ?_, ?_⟩
      · rw [v2 15 (by omega), u2 15 (by omega) (by omega), wr_m (by omega), b15]
      · rw [v2 13 (by omega), u2 13 (by omega) (by omega), wr_h rfl rfl, ed]; rfl
      · rw [v2 12 (by omega), u2 12 (by omega) (by omega), wr_m (by omega), b12]
      · rw [v2 11 (by omega), u3]
      · rw [v3, rval, if_pos ed]
    rw [if_neg h2, if_pos rfl, bd_eq (here_s hB b11 hs.2)]
    have h2' : ¬ (tks c L b < L ∧ pDi (c (tks c L b)) = true) := fun e => h2 (hDi.mpr e)
    by_cases h3 : tks c L b < L
    · have ed : tkd c L b = 3 := by unfold tkd; rw [if_pos h3, if_neg (fun e => h1' ⟨h3, e⟩), if_neg (fun e => h2' ⟨h3, e⟩)]
      have ee : tke c L b = tks c L b + 1 := by unfold tke; rw [if_pos h3, if_neg (fun e => h1' ⟨h3, e⟩), if_neg (fun e => h2' ⟨h3, e⟩)]
      have hp := hd _ h3
      rw [heA, if_pos h3, if_neg (show ¬ c (tks c L b) < 0 by rw [Int32.lt_iff_toInt_lt, z0T]; omega), lt_eq, b11, ← nI_succ, ← ee]
      refine ⟨_, rfl, X9_t bX (X9_w (by omega)), hb, ?_, ?_, ?_, ?_, ?_⟩
      · rw [wr_m (by omega), b15]
      · rw [wr_m (by omega), b13, hx, if_pos h3, ed]; rfl
      · rw [wr_m (by omega), b12]
      · rw [wr_h rfl rfl]
      · rw [wr_m (by omega), b14, rval, if_neg (by omega)]
    · have ed : tkd c L b = 0 := by unfold tkd; rw [if_neg h3]
      have ee : tke c L b = tks c L b := by unfold tke; rw [if_neg h3]
      rw [heA, if_neg h3, if_pos (by decide)]
      refine ⟨_, rfl, bX, hb, b15, ?_, b12, ?_, ?_⟩
      · rw [b13, hx, if_neg h3, ed]; rfl
      · rw [b11, ee]
      · rw [b14, rval, if_neg (by omega)]
  by_cases h3 : tks c L b < L
  · have hp := hd _ h3
    rw [if_pos (show (0 : Int32) ≤ heA c L (tks c L b) by rw [heA, if_pos h3, Int32.le_iff_toInt_le, z0T]; omega)]
    exact hr 2 (by rw [if_pos h3])
  · rw [if_neg (show ¬ (0 : Int32) ≤ heA c L (tks c L b) by rw [heA, if_neg h3]; decide)]
    exact hr 3 (by rw [if_neg h3])
