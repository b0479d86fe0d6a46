/-! an item of a physical sensor, on both sides -/
theorem rdP_inl {c : Nat → Int32} {L : Nat} {lo hi : Int32} {st : Nat ⊕ Nat} {b' : Nat} (h : rdP c L lo hi st = .inl b') : ∃ b, st = .inl b ∧ okN c L lo hi b ∧ b' = tke c L b ∧ lo.toInt ≤ (vlP c L st).toInt ∧ (vlP c L st).toInt ≤ hi.toInt := by
  cases st with
  | inl b =>
    by_cases hk : okN c L lo hi b
    · rw [show rdP c L lo hi (.inl b) = .inl (tke c L b) from if_pos hk] at h
      exact ⟨b, rfl, hk, (Sum.inl.inj h).symm, inR.mp hk.2.2⟩
    · rw [show rdP c L lo hi (.inl b) = .inr (tks c L b) from if_neg hk] at h
      cases h
  | inr s => cases h
theorem rdE_inl {c : Nat → Int32} {L : Nat} {st : Nat ⊕ Nat} {b' : Nat} (h : rdE c L st = .inl b') : ∃ b, st = .inl b := by
  cases st with
  | inl b => exact ⟨b, rfl⟩
  | inr s => cases h
theorem rdP_c {c : Nat → Int32} {L : Nat} {lo hi lo' hi' : Int32} {st : Nat ⊕ Nat} (h : ∀ b, st = .inl b → lo' = lo ∧ hi' = hi) : rdP c L lo' hi' st = rdP c L lo hi st := by
  cases st with
  | inl b => rw [(h b rfl).1, (h b rfl).2]
  | inr s => rfl
def XC (σ σ' : Mem) : Prop := (∀ w, w ≠ 297 → (w < 43 ∨ 85 ≤ w) → σ' w = σ w) ∧ σ' 297 0 = σ 297 0
theorem XC_t {σ σ' σ'' : Mem} (h : XC σ σ') (h' : XC σ' σ'') : XC σ σ'' := ⟨fun w h1 h2 => (h'.1 w h1 h2).trans (h.1 w h1 h2), h'.2.trans h.2⟩
theorem XC_7 {σ σ' : Mem} (h : X7 σ σ') : XC σ σ' := ⟨fun w h1 _ => h.1 w h1, h.2⟩
theorem XC_43 {σ σ' : Mem} (h : ∀ w, (w < 43 ∨ 85 ≤ w) → σ' w = σ w) : XC σ σ' := ⟨fun w _ h2 => h w h2, by rw [h 297 (by decide)]⟩
theorem XC_T {σ σ' : Mem} {c : Nat → Int32} {L : Nat} (h : XC σ σ') (hT : TX σ c L) : TX σ' c L := TX_k h.2 (h.1 298 (by decide) (by decide)) hT
def XM (τ τ' : Mem) : Prop := (∀ w, w ≠ 299 → w ≠ 300 → τ' w = τ w) ∧ ∀ k, (k < 11 ∨ 15 < k) → τ' 299 k = τ 299 k
theorem XM_t {τ τ' τ'' : Mem} (h : XM τ τ') (h' : XM τ' τ'') : XM τ τ'' := ⟨fun w h1 h2 => (h'.1 w h1 h2).trans (h.1 w h1 h2), fun k hk => (h'.2 k hk).trans (h.2 k hk)⟩
theorem XM_9 {τ τ' : Mem} (h : X9 τ τ') : XM τ τ' := ⟨fun w h1 _ => h.1 w h1, h.2⟩
theorem XM_r {τ : Mem} {f : Nat → Int32} : XM τ (wrow τ 300 f) := ⟨fun w _ h2 => wrow_m h2, fun k _ => by rw [wrow_m (by decide)]⟩
theorem XM_T {τ τ' : Mem} {c : Nat → Int32} {L : Nat} (h : XM τ τ') (hT : TM τ c L) : TM τ' c L := ⟨(h.2 5 (by omega)).trans hT.1, fun k hk => by rw [h.1 302 (by decide) (by decide)]; exact hT.2.1 k hk, hT.2.2⟩
def gkC (σ : Mem) (L : Nat) (S : Nat → Int32) (st : Nat ⊕ Nat) : Prop := cS σ L st ∧ FBq σ 43 ∧ ∀ b, st = .inl b → RH σ 43 S
def gkM (τ : Mem) (c : Nat → Int32) (L : Nat) (S : Nat → Int32) (st : Nat ⊕ Nat) : Prop := rH τ c L st ∧ ∀ b, st = .inl b → τ 300 = S
theorem cS_k {σ σ' : Mem} {L : Nat} {st : Nat ⊕ Nat} (h : σ' 297 = σ 297) (hs : cS σ L st) : cS σ' L st := by
  cases st with
  | inl b => unfold cS at hs ⊢; rw [h]; exact hs
  | inr s => unfold cS cB at hs ⊢; rw [h]; exact hs
theorem rH_k {τ τ' : Mem} {c : Nat → Int32} {L : Nat} {st : Nat ⊕ Nat} (h : τ' 299 = τ 299) (hs : rH τ c L st) : rH τ' c L st := by
  cases st with
  | inl b => unfold rH at hs ⊢; rw [h]; exact hs
  | inr s => unfold rH at hs ⊢; rw [h]; exact hs
theorem X7_R {σ σ' : Mem} {S : Nat → Int32} {b : Int} (hG : WG S b) (h : X7 σ σ') (hR : RH σ 43 S) : RH σ' 43 S := RH_cong (nS_le hG) (fun w h1 h2 => h.1 w (by omega)) hR
theorem X7_B {σ σ' : Mem} (h : X7 σ σ') (hB : FBq σ 43) : FBq σ' 43 := FBq_cong (fun w h1 h2 => h.1 w (by omega)) hB
/-- the greatest jitter of a least period -/
def gj (q : Int32) : Int32 := if q - 1 < 9 then q - 1 else 9
theorem gj_9 {q : Int32} : (gj q).toInt ≤ 9 := by
  unfold gj
  by_cases h : q - 1 < 9
  · rw [if_pos h]
    rw [Int32.lt_iff_toInt_lt, show (9 : Int32).toInt = 9 by decide] at h
    omega
  · rw [if_neg h]
    decide
theorem gj_x {q : Int32} {σ : Mem} : f_X_greatestJitter q σ = some (gj q, σ) := by
  unfold f_X_greatestJitter gj
  rw [min_s, bd_some]
def ph1 (c : Nat → Int32) (L : Nat) (st : Nat ⊕ Nat) : Nat ⊕ Nat := rdP c L 1 20 st
def ph2 (c : Nat → Int32) (L : Nat) (st : Nat ⊕ Nat) : Nat ⊕ Nat := rdP c L 1 5 (ph1 c L st)
def ph3 (c : Nat → Int32) (L : Nat) (st : Nat ⊕ Nat) : Nat ⊕ Nat := rdP c L 0 99 (ph2 c L st)
def ph4 (c : Nat → Int32) (L : Nat) (st : Nat ⊕ Nat) : Nat ⊕ Nat := rdP c L 0 999 (ph3 c L st)
def ph5 (c : Nat → Int32) (L : Nat) (st : Nat ⊕ Nat) : Nat ⊕ Nat := rdP c L 0 (gj (vlP c L st)) (ph4 c L st)
def ph6 (c : Nat → Int32) (L : Nat) (st : Nat ⊕ Nat) : Nat ⊕ Nat := rdP c L 1 50 (ph5 c L st)
def phg (c : Nat → Int32) (L : Nat) (st : Nat ⊕ Nat) : Nat → Int32 := gP (vlP c L st) (vlP c L (ph1 c L st)) (vlP c L (ph2 c L st)) (vlP c L (ph3 c L st)) (vlP c L (ph4 c L st)) (vlP c L (ph5 c L st))
/-- behind a good item: all its numbers are good -/
theorem ph_ok {c : Nat → Int32} {L : Nat} {st : Nat ⊕ Nat} {b6 : Nat} (h : ph6 c L st = .inl b6) : (∃ b, st = .inl b ∧ b < b6 ∨ st = .inl b ∧ b6 ≤ b) ∧ (∃ b, ph1 c L st = .inl b) ∧ (∃ b, ph2 c L st = .inl b) ∧ (∃ b, ph3 c L st = .inl b) ∧ (∃ b, ph4 c L st = .inl b) ∧ (∃ b, ph5 c L st = .inl b)
    ∧ (1 ≤ (vlP c L st).toInt ∧ (vlP c L st).toInt ≤ 20) ∧ (1 ≤ (vlP c L (ph1 c L st)).toInt ∧ (vlP c L (ph1 c L st)).toInt ≤ 5) ∧ (0 ≤ (vlP c L (ph2 c L st)).toInt ∧ (vlP c L (ph2 c L st)).toInt ≤ 99) ∧ (0 ≤ (vlP c L (ph3 c L st)).toInt ∧ (vlP c L (ph3 c L st)).toInt ≤ 999) ∧ (0 ≤ (vlP c L (ph4 c L st)).toInt ∧ (vlP c L (ph4 c L st)).toInt ≤ 9) ∧ (1 ≤ (vlP c L (ph5 c L st)).toInt ∧ (vlP c L (ph5 c L st)).toInt ≤ 50) := by
  have i20 : (20 : Int32).toInt = 20 := by decide
  have i5 : (5 : Int32).toInt = 5 := by decide
  have i99 : (99 : Int32).toInt = 99 := by decide
  have i999 : (999 : Int32).toInt = 999 := by decide
  have i50 : (50 : Int32).toInt = 50 := by decide
  obtain ⟨b5, e5, _, _, v6⟩ := rdP_inl (st := ph5 c L st) h
  obtain ⟨b4, e4, _, _, v5⟩ := rdP_inl (st := ph4 c L st) e5
  obtain ⟨b3, e3, _, _, v4⟩ := rdP_inl (st := ph3 c L st) e4
  obtain ⟨b2, e2, _, _, v3⟩ := rdP_inl (st := ph2 c L st) e3
  obtain ⟨b1, e1, _, _, v2⟩ := rdP_inl (st := ph1 c L st) e2
  obtain ⟨b0, e0, _, _, v1⟩ := rdP_inl (st := st) e1
  rw [i1T, i50] at v6
  rw [z0T] at v5
  rw [z0T, i999] at v4
  rw [z0T, i99] at v3
  rw [i1T, i5] at v2
  rw [i1T, i20] at v1
  exact ⟨⟨b0, by rcases Nat.lt_or_ge b0 b6 with z | z; exact Or.inl ⟨e0, z⟩; exact Or.inr ⟨e0, z⟩⟩, ⟨b1, e1⟩, ⟨b2, e2⟩, ⟨b3, e3⟩, ⟨b4, e4⟩, ⟨b5, e5⟩, v1, v2, v3, v4, ⟨v5.1, Int.le_trans v5.2 gj_9⟩, v6⟩
def phC (q q1 : Nat) (σ3 : Mem) : Option (Unit × Mem) :=
  bd (f_Txt_readNumber q (1 : Int32) (20 : Int32) σ3) fun r4 σ5 =>
  bd (f_Txt_readNumber q (1 : Int32) (5 : Int32) σ5) fun r6 σ7 =>
  bd (f_Txt_readNumber q (0 : Int32) (99 : Int32) σ7) fun r8 σ9 =>
  bd (f_Txt_readNumber q (0 : Int32) (999 : Int32) σ9) fun r10 σ11 =>
  bd (f_X_greatestJitter r4 σ11) fun r12 σ13 =>
  bd (f_Txt_readNumber q (0 : Int32) r12 σ13) fun r14 σ15 =>
  bd (f_Txt_readNumber q (1 : Int32) (50 : Int32) σ15) fun r16 σ17 =>
  bd (f_Txt_readEndOfItem q σ17) fun _ σ19 =>
  if (σ19 q 2) = 0 then
    bd (f_Hub_addPhysical q1 r4 r6 r8 r10 r14 r16 σ19) fun r20 σ21 =>
    some ((), σ21)
  else
    some ((), σ19)
theorem cS_2 {σ : Mem} {L : Nat} {st : Nat ⊕ Nat} (h : cS σ L st) : (∀ b, st = .inl b → σ 297 2 = 0) ∧ ∀ s, st = .inr s → σ 297 2 = 1 := by
  cases st with
  | inl b => exact ⟨fun _ _ => h.2.1, fun s hs => (by cases hs)⟩
  | inr s => exact ⟨fun b hb => (by cases hb), fun _ _ => h.1⟩
theorem phy_c {σ : Mem} {c : Nat → Int32} {L : Nat} {S : Nat → Int32} {st : Nat ⊕ Nat} (h : TX σ c L) (hs : cS σ L st) (hW : WF S) (hn : ∀ b, st = .inl b → nS S < 8) (hR : RH σ 43 S) (hB : FBq σ 43) : ∃ σ', phC 297 43 σ = some ((), σ') ∧ XC σ σ' ∧ gkC σ' L (rowA S (phg c L st)) (rdE c L (ph6 c L st)) := by
  obtain ⟨r1, σ1, e1, X1, s1, v1⟩ := rdn_c (lo := 1) (hi := 20) h (fun _ _ => by decide) hs
  have T1 := X7_T X1 h
  obtain ⟨r2, σ2, e2, X2, s2, v2⟩ := rdn_c (lo := 1) (hi := 5) T1 (fun _ _ => by decide) s1
  have T2 := X7_T X2 T1
  obtain ⟨r3, σ3, e3, X3, s3, v3⟩ := rdn_c (lo := 0) (hi := 99) T2 (fun _ _ => by decide) s2
  have T3 := X7_T X3 T2
  obtain ⟨r4, σ4, e4, X4, s4, v4⟩ := rdn_c (lo := 0) (hi := 999) T3 (fun _ _ => by decide) s3
  have T4 := X7_T X4 T3
  obtain ⟨r5, σ5, e5, X5, s5, v5⟩ := rdn_c (lo := 0) (hi := gj r1) T4 (fun _ _ => by decide) s4
  have T5 := X7_T X5 T4
  have hgj : rdP c L 0 (gj r1) (ph4 c L st) = ph5 c L st := rdP_c (fun b hb => by
    obtain ⟨b3, g3, _⟩ := rdP_inl (st := ph3 c L st) hb
    obtain ⟨b2, g2, _⟩ := rdP_inl (st := ph2 c L st) g3
    obtain ⟨b1, g1, _⟩ := rdP_inl (st := ph1 c L st) g2
    exact ⟨rfl, by rw [v1 b1 g1]⟩)
  have s5' : cS σ5 L (ph5 c L st) := by rw [← hgj]; exact s5
  have v5' : ∀ b, ph5 c L st = .inl b → r5 = vlP c L (ph4 c L st) := fun b hb => v5 b (hgj.trans hb)
  obtain ⟨r6, σ6, e6, X6, s6, v6⟩ := rdn_c (lo := 1) (hi := 50) T5 (fun _ _ => by decide) s5'
  have T6 := X7_T X6 T5
  obtain ⟨σ7, e7, X7', s7⟩ := rde_c T6 s6
  have XA : X7 σ σ7 := X7_t X1 (X7_t X2 (X7_t X3 (X7_t X4 (X7_t X5 (X7_t X6 X7')))))
  have R7 := X7_R hW.1 XA hR
  have B7 := X7_B XA hB
  unfold phC
  rw [bd_eq e1, bd_eq e2, bd_eq e3, bd_eq e4, bd_eq gj_x, bd_eq e5, bd_eq e6, bd_eq e7]
  have s7' : cS σ7 L (rdE c L (ph6 c L st)) := s7
  cases hE : rdE c L (ph6 c L st) with
  | inl b =>
    rw [hE] at s7'
    obtain ⟨b6, g6⟩ := rdE_inl hE
    obtain ⟨⟨b0, g0⟩, ⟨b1, g1⟩, ⟨b2, g2⟩, ⟨b3, g3⟩, ⟨b4, g4⟩, ⟨b5, g5⟩, q1, q2, q3, q4, q5, q6⟩ := ph_ok g6
    have g00 : st = .inl b0 := g0.elim (fun z => z.1) (fun z => z.1)
    rw [if_pos ((cS_2 s7').1 b rfl), v1 b1 g1, v2 b2 g2, v3 b3 g3, v4 b4 g4, v5' b5 g5, v6 b6 g6]
    obtain ⟨σ8, e8, r8, w8, f8⟩ := phy_X hW (hn b0 g00) (phy_WP q1 q2 q3 q4 q5 q6) hW.1.1.1 R7
    exact ⟨σ8, bd_eq e8 _, XC_t (XC_7 XA) (XC_43 (fun w hw => w8 w (by omega))), cS_k (w8 297 (by omega)) s7', f8 B7, fun _ _ => r8⟩
  | inr s =>
    rw [hE] at s7'
    rw [if_neg (show ¬ σ7 297 2 = 0 by rw [(cS_2 s7').2 s rfl]; decide)]
    exact ⟨σ7, rfl, XC_7 XA, s7', B7, fun b hb => by cases hb⟩
/-! the reference's -/
def phN (q : Nat) (r3 r5 r7 r9 r11 : Int32) (σ12 : Mem) : Option (Unit × Mem) :=
  bd (f_M_take_II q (1 : Int32) (50 : Int32) σ12) fun r13 σ14 =>
  if (σ14 q 15) = 0 then
    bd (f_M_addPhysical q r3 r5 r7 r9 r11 r13 σ14) fun r15 σ16 =>
    some ((), σ16)
  else
    some ((), σ14)
def phM (q : Nat) (σ2 : Mem) : Option (Unit × Mem) :=
  bd (f_M_take_II q (1 : Int32) (20 : Int32) σ2) fun r3 σ4 =>
  bd (f_M_take_II q (1 : Int32) (5 : Int32) σ4) fun r5 σ6 =>
  bd (f_M_take_II q (0 : Int32) (99 : Int32) σ6) fun r7 σ8 =>
  bd (f_M_take_II q (0 : Int32) (999 : Int32) σ8) fun r9 σ10 =>
  if (9 : Int32) ≤ (r3 - (1 : Int32)) then
    bd (f_M_take_II q (0 : Int32) (9 : Int32) σ10) fun r11 σ12 => phN q r3 r5 r7 r9 r11 σ12
  else
    bd (f_M_take_II q (0 : Int32) (r3 - (1 : Int32)) σ10) fun r11 σ12 => phN q r3 r5 r7 r9 r11 σ12
theorem readSensor_e {q : Nat} {σ : Mem} : f_M_readSensor q σ = if (8 : Int32) ≤ (σ (q + 1) 1) then bd (f_M_take_Z q (0 : Int32) σ) fun _ σ2 => phM q σ2 else bd (f_M_take_Z q (1 : Int32) σ) fun _ σ2 => phM q σ2 := rfl
theorem gj_if {α : Type} {r : Int32} {f : Int32 → α} : (if (9 : Int32) ≤ r - 1 then f 9 else f (r - 1)) = f (gj r) := by
  unfold gj
  by_cases h : r - 1 < 9
  · rw [if_pos h, if_neg (fun z => by rw [Int32.le_iff_toInt_le] at z; rw [Int32.lt_iff_toInt_lt] at h; omega)]
  · rw [if_neg h, if_pos (by rw [Int32.le_iff_toInt_le]; rw [Int32.lt_iff_toInt_lt] at h; omega)]
theorem rH_15 {τ : Mem} {c : Nat → Int32} {L : Nat} {st : Nat ⊕ Nat} (h : rH τ c L st) : (∀ b, st = .inl b → τ 299 15 = 0) ∧ ∀ s, st = .inr s → τ 299 15 = 1 := by
  cases st with
  | inl b => exact ⟨fun _ _ => h.2.1, fun s hs => (by cases hs)⟩
  | inr s => exact ⟨fun b hb => (by cases hb), fun _ _ => h.1⟩
theorem phy_m {τ : Mem} {c : Nat → Int32} {L : Nat} {S : Nat → Int32} {st : Nat ⊕ Nat} (h : TM τ c L) (hs : rH τ c L st) (hW : WF S) (hn : ∀ b, st = .inl b → nS S < 8) (h300 : τ 300 = S) : ∃ τ', phM 299 τ = some ((), τ') ∧ XM τ τ' ∧ gkM τ' c L (rowA S (phg c L st)) (ph6 c L st) := by
  obtain ⟨r1, σ1, e1, X1, s1, v1⟩ := take_m (lo := 1) (hi := 20) h (fun _ _ => by decide) hs
  have T1 := X9_T X1 h
  obtain ⟨r2, σ2, e2, X2, s2, v2⟩ := take_m (lo := 1) (hi := 5) T1 (fun _ _ => by decide) s1
  have T2 := X9_T X2 T1
  obtain ⟨r3, σ3, e3, X3, s3, v3⟩ := take_m (lo := 0) (hi := 99) T2 (fun _ _ => by decide) s2
  have T3 := X9_T X3 T2
  obtain ⟨r4, σ4, e4, X4, s4, v4⟩ := take_m (lo := 0) (hi := 999) T3 (fun _ _ => by decide) s3
  have T4 := X9_T X4 T3
  obtain ⟨r5, σ5, e5, X5, s5, v5⟩ := take_m (lo := 0) (hi := gj r1) T4 (fun _ _ => by decide) s4
  have T5 := X9_T X5 T4
  have hgj : rdP c L 0 (gj r1) (ph4 c L st) = ph5 c L st := rdP_c (fun b hb => by
    obtain ⟨b3, g3, _⟩ := rdP_inl (st := ph3 c L st) hb
    obtain ⟨b2, g2, _⟩ := rdP_inl (st := ph2 c L st) g3
    obtain ⟨b1, g1, _⟩ := rdP_inl (st := ph1 c L st) g2
    exact ⟨rfl, by rw [v1 b1 g1]⟩)
  have s5' : rH σ5 c L (ph5 c L st) := by rw [← hgj]; exact s5
  have v5' : ∀ b, ph5 c L st = .inl b → r5 = vlP c L (ph4 c L st) := fun b hb => v5 b (hgj.trans hb)
  obtain ⟨r6, σ6, e6, X6, s6, v6⟩ := take_m (lo := 1) (hi := 50) T5 (fun _ _ => by decide) s5'
  have XA : X9 τ σ6 := X9_t X1 (X9_t X2 (X9_t X3 (X9_t X4 (X9_t X5 X6))))
  have t0 : σ6 300 = S := (XA.1 300 (by decide)).trans h300
  unfold phM
  rw [bd_eq e1, bd_eq e2, bd_eq e3, bd_eq e4, gj_if (f := fun z => bd (f_M_take_II 299 (0 : Int32) z σ4) fun r11 σ12 => phN 299 r1 r2 r3 r4 r11 σ12), bd_eq e5]
  unfold phN
  rw [bd_eq e6]
  have s6' : rH σ6 c L (ph6 c L st) := s6
  cases hE : ph6 c L st with
  | inl b =>
    rw [hE] at s6'
    obtain ⟨⟨b0, g0⟩, ⟨b1, g1⟩, ⟨b2, g2⟩, ⟨b3, g3⟩, ⟨b4, g4⟩, ⟨b5, g5⟩, q1, q2, q3, q4, q5, q6⟩ := ph_ok hE
    have g00 : st = .inl b0 := g0.elim (fun z => z.1) (fun z => z.1)
    rw [if_pos ((rH_15 s6').1 b rfl), v1 b1 g1, v2 b2 g2, v3 b3 g3, v4 b4 g4, v5' b5 g5, v6 b hE]
    have hp := phy_M (τ := σ6) (q := vlP c L st) (st := vlP c L (ph1 c L st)) (sl := vlP c L (ph2 c L st)) (of := vlP c L (ph3 c L st)) (ji := vlP c L (ph4 c L st)) (co := vlP c L (ph5 c L st)) (by rw [t0]; exact hW.1.2.2.1.1) (by rw [t0]; exact hn b0 g00)
    rw [t0] at hp
    exact ⟨_, bd_eq hp _, XM_t (XM_9 XA) XM_r, rH_k (wrow_m (by decide)) s6', fun _ _ => wrow_h⟩
  | inr s =>
    rw [hE] at s6'
    rw [if_neg (show ¬ σ6 299 15 = 0 by rw [(rH_15 s6').2 s rfl]; decide)]
    exact ⟨σ6, rfl, XM_9 XA, s6', fun b hb => by cases hb⟩
