/-! the class: a number, the end of an item -/
def fo (c : Nat → Int32) (L s : Nat) : Nat → Int32
  | 0 => 0
  | n + 1 => (10 * fo c L s n + chA c L (s + n)) - 48
abbrev bad (c : Nat → Int32) (L s e : Nat) : Prop := 4 < e - s ∨ (1 < e - s ∧ chA c L s = 48)
theorem num43 {K : Int32 → Mem → Option (Int32 × Mem)} {σ : Mem} {c : Nat → Int32} {L e s : Nat} (h : TX σ c L) (h5 : σ 297 5 = nI e) (he : e ≤ 160) : ∀ n f i, s + i + n = e → n < f → L_Txt_numberOfToken_43 297 K f (fo c L s i) (nI (s + i)) σ = K (fo c L s (i + n)) σ := by
  intro n
  induction n with
  | zero =>
    intro f i hi hf
    obtain ⟨f, rfl⟩ : ∃ m, f = m + 1 := ⟨f - 1, by omega⟩
    unfold L_Txt_numberOfToken_43
    rw [h5, if_pos (nI_le (by omega) (by omega))]
    rfl
  | succ n ih =>
    intro f i hi hf
    obtain ⟨f, rfl⟩ : ∃ m, f = m + 1 := ⟨f - 1, by omega⟩
    unfold L_Txt_numberOfToken_43
    rw [h5, if_neg (nI_ge (by omega) (by omega)), bd_eq (codeAt_s h (by omega)), lt_eq, ← nI_succ]
    have := ih f (i + 1) (by omega) (by omega)
    rw [show i + (n + 1) = i + 1 + n by omega, ← this]
    rfl
theorem numTok {σ : Mem} {c : Nat → Int32} {L e s : Nat} (h : TX σ c L) (h4 : σ 297 4 = nI s) (h5 : σ 297 5 = nI e) (hs : s ≤ e) (he : e ≤ 160) : f_Txt_numberOfToken 297 σ = some (if bad c L s e then -9 else fo c L s (e - s), σ) := by
  have hl := num43 (K := fun z σ' => some (z, σ')) (s := s) h h5 he (e - s) FU 0 (by omega) (by unfold FU; omega)
  rw [show s + 0 = s from rfl, show fo c L s 0 = 0 from rfl, Nat.zero_add] at hl
  unfold f_Txt_numberOfToken
  rw [h4, h5, pk_sub hs, lt_eq]
  by_cases h1 : 4 < e - s
  · rw [if_pos (show (4 : Int32) < nI (e - s) from nI_lt (a := 4) h1 (by omega)), if_pos (Or.inl h1)]
  rw [if_neg (show ¬ (4 : Int32) < nI (e - s) from nI_nlt (a := 4) (b := e - s) (by omega) (by decide))]
  by_cases h2 : e - s ≤ 1
  · rw [if_pos (show nI (e - s) ≤ (1 : Int32) from nI_le (b := 1) h2 (by decide)), lt_eq, if_neg (show ¬ bad c L s e from fun x => x.elim h1 (fun y => by omega))]
    exact hl
  rw [if_neg (show ¬ nI (e - s) ≤ (1 : Int32) from nI_ge (a := 1) (b := e - s) (by omega) (by omega)), bd_eq (codeAt_s h (by omega))]
  by_cases h3 : chA c L s = 48
  · rw [if_pos h3, if_pos (Or.inr ⟨by omega, h3⟩)]
  · rw [if_neg h3, lt_eq, if_neg (show ¬ bad c L s e from fun x => x.elim h1 (fun y => h3 y.2)), h4]
    exact hl
def cB (σ : Mem) (s : Nat) : Prop := σ 297 2 = 1 ∧ σ 297 4 = nI s ∧ ∃ e, σ 297 5 = nI e ∧ s ≤ e ∧ e ≤ 160
def cS (σ : Mem) (L : Nat) : Nat ⊕ Nat → Prop
  | .inl b => b ≤ L ∧ σ 297 2 = 0 ∧ σ 297 5 = nI b
  | .inr s => cB σ s
def cH (σ : Mem) (c : Nat → Int32) (L : Nat) : Nat ⊕ Nat → Prop
  | .inl b => b ≤ L ∧ σ 297 2 = 0 ∧ σ 297 3 = nI (tkd c L b) ∧ σ 297 4 = nI (tks c L b) ∧ σ 297 5 = nI (tke c L b)
  | .inr s => cB σ s
def X7 (σ σ' : Mem) : Prop := (∀ w, w ≠ 297 → σ' w = σ w) ∧ σ' 297 0 = σ 297 0
theorem X7_r {σ : Mem} : X7 σ σ := ⟨fun _ _ => rfl, rfl⟩
theorem X7_t {σ σ' σ'' : Mem} (h : X7 σ σ') (h' : X7 σ' σ'') : X7 σ σ'' := ⟨fun w hw => (h'.1 w hw).trans (h.1 w hw), h'.2.trans h.2⟩
theorem X7_w {σ : Mem} {k : Nat} {x : Int32} (hk : k ≠ 0) : X7 σ (wr σ 297 k x) := ⟨fun w hw => wr_other hw, wr_m (by omega)⟩
theorem X7_T {σ σ' : Mem} {c : Nat → Int32} {L : Nat} (h : X7 σ σ') (hT : TX σ c L) : TX σ' c L := TX_k h.2 (h.1 298 (by decide)) hT
theorem cH_S {σ : Mem} {c : Nat → Int32} {L b : Nat} (h : cH σ c L (.inl b)) : cS σ L (.inl (tke c L b)) := ⟨(tke_b h.1).2.1, h.2.1, h.2.2.2.2⟩
theorem next_c {σ : Mem} {c : Nat → Int32} {L : Nat} {st : Nat ⊕ Nat} (h : TX σ c L) (hs : cS σ L st) : ∃ σ', f_Txt_nextToken 297 σ = some ((), σ') ∧ X7 σ σ' ∧ cH σ' c L st := by
  cases st with
  | inl b =>
    obtain ⟨h1, h2, h3⟩ := hs
    refine ⟨_, next_s h h1 h2 h3, X7_t (X7_t (X7_t (X7_w (by decide)) (X7_w (by decide))) (X7_w (by decide))) (X7_w (by decide)), h1, ?_, ?_, ?_, ?_⟩
    · rw [wr_m (by omega), wr_m (by omega), wr_m (by omega), wr_m (by omega)]; exact h2
    · rw [wr_m (by omega), wr_h rfl rfl]
    · rw [wr_m (by omega), wr_m (by omega), wr_h rfl rfl]
    · rw [wr_h rfl rfl]
  | inr s => exact ⟨σ, next_f (by rw [hs.1]; decide), X7_r, hs⟩
abbrev okN (c : Nat → Int32) (L : Nat) (lo hi : Int32) (b : Nat) : Prop := tkd c L b = 2 ∧ ¬ bad c L (tks c L b) (tke c L b) ∧ lo ≤ fo c L (tks c L b) (tke c L b - tks c L b) ∧ fo c L (tks c L b) (tke c L b - tks c L b) ≤ hi
theorem tkd_3 {c : Nat → Int32} {L b : Nat} : tkd c L b ≤ 3 := by
  unfold tkd
  split
  · split
    · decide
    · split
      · decide
      · decide
  · decide
def rdP (c : Nat → Int32) (L : Nat) (lo hi : Int32) : Nat ⊕ Nat → Nat ⊕ Nat
  | .inl b => if okN c L lo hi b then .inl (tke c L b) else .inr (tks c L b)
  | .inr s => .inr s
def vlP (c : Nat → Int32) (L : Nat) : Nat ⊕ Nat → Int32
  | .inl b => fo c L (tks c L b) (tke c L b - tks c L b)
  | .inr _ => 0
def rdE (c : Nat → Int32) (L : Nat) : Nat ⊕ Nat → Nat ⊕ Nat
  | .inl b => if chA c L (tks c L b) = 59 then .inl (tke c L b) else .inr (tks c L b)
  | .inr s => .inr s
theorem cB_w {σ : Mem} {c : Nat → Int32} {L b : Nat} (h : cH σ c L (.inl b)) (hL : L ≤ 160) : cB (wr σ 297 2 1) (tks c L b) := ⟨wr_h rfl rfl, by rw [wr_m (by omega)]; exact h.2.2.2.1, tke c L b, by rw [wr_m (by omega)]; exact h.2.2.2.2, (tke_b h.1).1, by have := (tke_b (c := c) h.1).2.1; omega⟩
theorem rdn_c {σ : Mem} {c : Nat → Int32} {L : Nat} {lo hi : Int32} {st : Nat ⊕ Nat} (h : TX σ c L) (h0 : ∀ b, st = .inl b → 0 ≤ lo.toInt) (hs : cS σ L st) : ∃ r σ', f_Txt_readNumber 297 lo hi σ = some (r, σ') ∧ X7 σ σ' ∧ cS σ' L (rdP c L lo hi st) ∧ ∀ b, rdP c L lo hi st = .inl b → r = vlP c L st := by
  obtain ⟨τ, e1, hX, hH⟩ := next_c h hs
  have hT := X7_T hX h
  have hL := h.2.2.1
  unfold f_Txt_readNumber
  rw [bd_eq e1]
  cases st with
  | inl b =>
    have hlo := h0 b rfl
    have hw := cB_w hH hL
    have hb := tke_b (c := c) hH.1
    obtain ⟨g1, g2, g3, g4, g5⟩ := id hH
    rw [g3]
    have hno : ∀ r : Int32, ¬ okN c L lo hi b → ∃ r' σ', (lt (wr τ 297 2 (1 : Int32)) fun σ5 => some (r, σ5)) = some (r', σ') ∧ X7 σ σ' ∧ cS σ' L (rdP c L lo hi (.inl b)) ∧ ∀ b', rdP c L lo hi (.inl b) = .inl b' → r' = vlP c L (.inl b) := fun r hn => by
      have e : rdP c L lo hi (.inl b) = .inr (tks c L b) := if_neg hn
      rw [e]
      exact ⟨r, _, rfl, X7_t hX (X7_w (by decide)), hw, fun b' hb' => by cases hb'⟩
    by_cases h2 : tkd c L b = 2
    · rw [h2, if_pos (show nI 2 = 2 from rfl), bd_eq (numTok hT g4 g5 hb.1 (by omega))]
      by_cases hbad : bad c L (tks c L b) (tke c L b)
      · rw [if_pos hbad, if_pos (show (-9 : Int32) < 0 by decide)]
        exact hno _ (fun x => x.2.1 hbad)
      · rw [if_neg hbad]
        by_cases hneg : fo c L (tks c L b) (tke c L b - tks c L b) < 0
        · rw [if_pos hneg]
          refine hno _ (fun x => ?_)
          have x3 := x.2.2.1
          rw [Int32.le_iff_toInt_le] at x3
          rw [Int32.lt_iff_toInt_lt, show (0 : Int32).toInt = 0 by decide] at hneg
          omega
        · rw [if_neg hneg, isW, bd_some]
          by_cases hin : lo ≤ fo c L (tks c L b) (tke c L b - tks c L b) ∧ fo c L (tks c L b) (tke c L b - tks c L b) ≤ hi
          · rw [if_pos hin, if_neg (by decide)]
            have e : rdP c L lo hi (.inl b) = .inl (tke c L b) := if_pos ⟨h2, hbad, hin⟩
            rw [e]
            exact ⟨_, _, rfl, hX, cH_S hH, fun b' _ => rfl⟩
          · rw [if_neg hin, if_pos rfl]
            exact hno _ (fun x => hin x.2.2)
    · rw [if_neg (show ¬ nI (tkd c L b) = 2 from fun e => h2 ((nI_eq (b := 2) (by have := tkd_3 (c := c) (L := L) (b := b); omega) (by decide)).mp e))]
      exact hno _ (fun x => h2 x.1)
  | inr s =>
    have hB : cB τ s := hH
    obtain ⟨g2, g4, e, g5, he1, he2⟩ := hH
    have hwi : wr τ 297 2 1 = τ := wr_id g2
    have e0 : rdP c L lo hi (.inr s) = .inr s := rfl
    rw [e0]
    have hno : ∀ (r : Int32), ∃ r' σ', some (r, τ) = some (r', σ') ∧ X7 σ σ' ∧ cS σ' L (.inr s) ∧ ∀ b' : Nat, (Sum.inr s : Nat ⊕ Nat) = .inl b' → r' = vlP c L (.inr s) := fun r => ⟨r, τ, rfl, hX, hB, fun b' hb' => by cases hb'⟩
    rw [bd_eq (numTok hT g4 g5 he1 he2)]
    simp only [lt_eq, hwi, isW, bd_some, ite_self]
    split
    · exact hno _
    · exact hno _
theorem rde_c {σ : Mem} {c : Nat → Int32} {L : Nat} {st : Nat ⊕ Nat} (h : TX σ c L) (hs : cS σ L st) : ∃ σ', f_Txt_readEndOfItem 297 σ = some ((), σ') ∧ X7 σ σ' ∧ cS σ' L (rdE c L st) := by
  obtain ⟨τ, e1, hX, hH⟩ := next_c h hs
  have hT := X7_T hX h
  have hL := h.2.2.1
  unfold f_Txt_readEndOfItem
  rw [bd_eq e1]
  cases st with
  | inl b =>
    have hb := tke_b (c := c) hH.1
    rw [hH.2.2.2.1, bd_eq (codeAt_s hT (by omega))]
    by_cases h5 : chA c L (tks c L b) = 59
    · rw [if_pos h5, show rdE c L (.inl b) = .inl (tke c L b) from if_pos h5]
      exact ⟨_, rfl, hX, cH_S hH⟩
    · rw [if_neg h5, show rdE c L (.inl b) = .inr (tks c L b) from if_neg h5]
      exact ⟨_, rfl, X7_t hX (X7_w (by decide)), cB_w hH hL⟩
  | inr s =>
    have hB : cB τ s := hH
    obtain ⟨g2, g4, e, g5, he1, he2⟩ := hH
    rw [g4, bd_eq (codeAt_s hT (by omega)), lt_eq, wr_id g2]
    split
    · exact ⟨τ, rfl, hX, hB⟩
    · exact ⟨τ, rfl, hX, hB⟩
