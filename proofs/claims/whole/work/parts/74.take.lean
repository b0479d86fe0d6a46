/-! the reference: a number is taken, an item ends -/
def tkP (c : Nat → Int32) (L : Nat) (p : Int32) : Nat ⊕ Nat → Nat ⊕ Nat
  | .inl b => if p = 0 then .inr (tks c L b) else .inl (tke c L b)
  | .inr s => .inr s
theorem tkP_0 {c : Nat → Int32} {L b : Nat} : tkP c L 0 (.inl b) = .inr (tks c L b) := by
  show (if (0 : Int32) = 0 then Sum.inr (tks c L b) else Sum.inl (tke c L b)) = _
  rw [if_pos rfl]
theorem tkP_1 {c : Nat → Int32} {L b : Nat} : tkP c L 1 (.inl b) = .inl (tke c L b) := by
  show (if (1 : Int32) = 0 then Sum.inr (tks c L b) else Sum.inl (tke c L b)) = _
  rw [if_neg i1n]
theorem fail_m {τ : Mem} {c : Nat → Int32} {L b : Nat} (hH : rH τ c L (.inl b)) : rH (wr τ 299 15 1) c L (.inr (tks c L b)) := ⟨wr_h rfl rfl, by rw [wr_m (by omega)]; exact hH.2.2.2.1⟩
theorem on_m {τ : Mem} {c : Nat → Int32} {L b : Nat} (h : TM τ c L) (hH : rH τ c L (.inl b)) : ∃ τ', f_M_read 299 τ = some ((), τ') ∧ X9 τ τ' ∧ rH τ' c L (.inl (tke c L b)) := read_m h hH.2.1 hH.2.2.2.2.1 (tke_b hH.1).2.1
theorem takeZ_m {τ : Mem} {c : Nat → Int32} {L : Nat} {p : Int32} {st : Nat ⊕ Nat} (h : TM τ c L) (hH : rH τ c L st) : ∃ τ', f_M_take_Z 299 p τ = some ((), τ') ∧ X9 τ τ' ∧ rH τ' c L (tkP c L p st) := by
  unfold f_M_take_Z
  cases st with
  | inl b =>
    have e15 := hH.2.1
    rw [if_pos e15]
    by_cases hp : p = 0
    · rw [if_pos hp, lt_eq, if_neg (show ¬ wr τ 299 15 1 299 15 = 0 by rw [wr_h rfl rfl]; decide), show tkP c L p (.inl b) = .inr (tks c L b) from if_pos hp]
      exact ⟨_, rfl, X9_w (by omega), fail_m hH⟩
    · obtain ⟨τ', e, g1, g2⟩ := on_m h hH
      rw [if_neg hp, lt_eq, wr_id e15, if_pos e15, bd_eq e, show tkP c L p (.inl b) = .inl (tke c L b) from if_neg hp]
      exact ⟨_, rfl, g1, g2⟩
  | inr s =>
    have e15 : τ 299 15 = 1 := hH.1
    have hn : ¬ τ 299 15 = 0 := by rw [e15]; decide
    rw [if_neg hn, lt_eq, wr_id e15, if_neg hn]
    exact ⟨τ, rfl, X9_r, hH⟩
theorem take_m {τ : Mem} {c : Nat → Int32} {L : Nat} {lo hi : Int32} {st : Nat ⊕ Nat} (h : TM τ c L) (h0 : ∀ b, st = .inl b → 0 ≤ lo.toInt) (hH : rH τ c L st) : ∃ r τ', f_M_take_II 299 lo hi τ = some (r, τ') ∧ X9 τ τ' ∧ rH τ' c L (rdP c L lo hi st) ∧ ∀ b, rdP c L lo hi st = .inl b → r = vlP c L st := by
  unfold f_M_take_II
  cases st with
  | inl b =>
    have e15 := hH.2.1
    have hlo := h0 b rfl
    have h3k := tkd_3 (c := c) (L := L) (b := b)
    rw [if_pos e15, hH.2.2.1]
    have hno : ¬ okN c L lo hi b → ∃ r τ', some ((0 : Int32), wr τ 299 15 1) = some (r, τ') ∧ X9 τ τ' ∧ rH τ' c L (rdP c L lo hi (.inl b)) ∧ ∀ b', rdP c L lo hi (.inl b) = .inl b' → r = vlP c L (.inl b) := fun hn => by
      rw [show rdP c L lo hi (.inl b) = .inr (tks c L b) from if_neg hn]
      exact ⟨_, _, rfl, X9_w (by omega), fail_m hH, fun b' hb' => by cases hb'⟩
    by_cases h2 : tkd c L b = 2
    · rw [if_pos ((rk_1 h3k).mpr h2), isIn, bd_some, hH.2.2.2.2.2, rval, if_pos h2]
      by_cases hbad : bad c L (tks c L b) (tke c L b)
      · rw [if_pos hbad, if_neg (show ¬ (lo ≤ -1 ∧ (-1 : Int32) ≤ hi) from fun z => by have z1 := z.1; rw [Int32.le_iff_toInt_le, show (-1 : Int32).toInt = -1 by decide] at z1; omega), if_pos rfl]
        exact hno (fun x => x.2.1 hbad)
      · rw [if_neg hbad]
        by_cases hin : lo ≤ fo c L (tks c L b) (tke c L b - tks c L b) ∧ fo c L (tks c L b) (tke c L b - tks c L b) ≤ hi
        · obtain ⟨τ', e, g1, g2⟩ := on_m h hH
          rw [if_pos hin, if_neg i1n, lt_eq, bd_eq e, show rdP c L lo hi (.inl b) = .inl (tke c L b) from if_pos ⟨h2, hbad, hin⟩]
          exact ⟨_, _, rfl, g1, g2, fun b' _ => rfl⟩
        · rw [if_neg hin, if_pos rfl]
          exact hno (fun x => hin x.2.2)
    · rw [if_neg (fun z => h2 ((rk_1 h3k).mp z))]
      exact hno (fun x => h2 x.1)
  | inr s =>
    have e15 : τ 299 15 = 1 := hH.1
    have hn : ¬ τ 299 15 = 0 := by rw [e15]; decide
    rw [if_neg hn, lt_eq, wr_id e15]
    exact ⟨_, τ, rfl, X9_r, hH, fun b hb => by cases hb⟩
def mE (q : Nat) (σ63 : Mem) : Option (Unit × Mem) :=
  if (σ63 q 13) = (2 : Int32) then
    if (σ63 q 15) = 0 then
      if ib (σ63 q 12) 160 then
        if (σ63 (q + 3) (σ63 q 12).toNatClampNeg) = (59 : Int32) then
          bd (f_M_take_Z q (1 : Int32) σ63) fun _ σ65 =>
          some ((), σ65)
        else
          bd (f_M_take_Z q (0 : Int32) σ63) fun _ σ67 =>
          some ((), σ67)
      else none
    else
      bd (f_M_take_Z q (0 : Int32) σ63) fun _ σ69 =>
      some ((), σ69)
  else
    bd (f_M_take_Z q (0 : Int32) σ63) fun _ σ71 =>
    some ((), σ71)
theorem ch59 {c : Nat → Int32} {L b : Nat} (h : chA c L (tks c L b) = 59) : tks c L b < L ∧ tkd c L b = 3 := by
  unfold chA at h
  by_cases hl : tks c L b < L
  · rw [if_pos hl] at h
    refine ⟨hl, ?_⟩
    unfold tkd
    rw [if_pos hl, h, if_neg (by decide), if_neg (by decide)]
  · rw [if_neg hl] at h
    exact absurd h (by decide)
theorem end_m {τ : Mem} {c : Nat → Int32} {L : Nat} {st : Nat ⊕ Nat} (h : TM τ c L) (hH : rH τ c L st) : ∃ τ', mE 299 τ = some ((), τ') ∧ X9 τ τ' ∧ rH τ' c L (rdE c L st) := by
  have tz : ∀ p : Int32, ∃ τ', (bd (f_M_take_Z 299 p τ) fun _ σ => some ((), σ)) = some ((), τ') ∧ X9 τ τ' ∧ rH τ' c L (tkP c L p st) := fun p => by
    obtain ⟨τ', e, g1, g2⟩ := takeZ_m (p := p) h hH
    exact ⟨τ', by rw [bd_eq e], g1, g2⟩
  unfold mE
  cases st with
  | inl b =>
    have h3k := tkd_3 (c := c) (L := L) (b := b)
    have hL := h.2.2.1
    have no : chA c L (tks c L b) ≠ 59 → ∃ τ', (bd (f_M_take_Z 299 0 τ) fun _ σ => some ((), σ)) = some ((), τ') ∧ X9 τ τ' ∧ rH τ' c L (rdE c L (.inl b)) := fun hn => by
      obtain ⟨τ', e, g1, g2⟩ := tz 0
      rw [tkP_0] at g2
      rw [show rdE c L (.inl b) = .inr (tks c L b) from if_neg hn]
      exact ⟨τ', e, g1, g2⟩
    rw [hH.2.2.1, hH.2.1, hH.2.2.2.1]
    by_cases h3 : tkd c L b = 3
    · have hsl := tkd_1L (c := c) (L := L) (b := b) (by omega)
      have ec : chA c L (tks c L b) = c (tks c L b) := if_pos hsl
      rw [if_pos ((rk_2 h3k).mpr h3), if_pos rfl, if_pos (ib_nI (by omega) (by decide)), codR h hsl]
      by_cases h5 : c (tks c L b) = 59
      · rw [if_pos h5, show rdE c L (.inl b) = .inl (tke c L b) from if_pos (ec.trans h5)]
        obtain ⟨τ', e, g1, g2⟩ := tz 1
        rw [tkP_1] at g2
        exact ⟨τ', e, g1, g2⟩
      · rw [if_neg h5]
        exact no (fun z => h5 (ec.symm.trans z))
    · rw [if_neg (fun z => h3 ((rk_2 h3k).mp z))]
      exact no (fun z => h3 (ch59 z).2)
  | inr s =>
    have e15 : τ 299 15 = 1 := hH.1
    rw [if_neg (show ¬ τ 299 15 = 0 by rw [e15]; decide), show rdE c L (.inr s) = .inr s from rfl]
    split
    · exact tz 0
    · exact tz 0
