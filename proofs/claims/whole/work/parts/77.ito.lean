/-! an item of an outage, on both sides -/
def ou1 (c : Nat → Int32) (L : Nat) (S : Nat → Int32) : Nat ⊕ Nat → Nat ⊕ Nat
  | .inl b => if okN c L 0 (S 1 - 1) b ∧ S (11 + 19 * (fo c L (tks c L b) (tke c L b - tks c L b)).toInt.toNat) = 4 then .inl (tke c L b) else .inr (tks c L b)
  | .inr s => .inr s
def ou2 (c : Nat → Int32) (L : Nat) (S : Nat → Int32) (st : Nat ⊕ Nat) : Nat ⊕ Nat := rdP c L 0 9999 (ou1 c L S st)
def ou3 (c : Nat → Int32) (L : Nat) (S : Nat → Int32) (st : Nat ⊕ Nat) : Nat ⊕ Nat := rdP c L (vlP c L (ou1 c L S st)) 9999 (ou2 c L S st)
def oug (c : Nat → Int32) (L : Nat) (S : Nat → Int32) (st : Nat ⊕ Nat) : Nat → Int32 := gapS S (vlP c L st) (vlP c L (ou1 c L S st)) (vlP c L (ou2 c L S st))
theorem rdn_h {σ : Mem} {c : Nat → Int32} {L b : Nat} {lo hi : Int32} (h : TX σ c L) (h0 : 0 ≤ lo.toInt) (hs : cS σ L (.inl b)) (hk : okN c L lo hi b) : ∃ σ', f_Txt_readNumber 297 lo hi σ = some (fo c L (tks c L b) (tke c L b - tks c L b), σ') ∧ X7 σ σ' ∧ cH σ' c L (.inl b) := by
  obtain ⟨τ, e1, hX, hH⟩ := next_c h hs
  have hT := X7_T hX h
  have hL := h.2.2.1
  have hb := tke_b (c := c) hH.1
  obtain ⟨g1, g2, g3, g4, g5⟩ := id hH
  obtain ⟨k1, k2, k3⟩ := hk
  unfold f_Txt_readNumber
  rw [bd_eq e1, g3, k1, if_pos (show nI 2 = 2 from rfl), bd_eq (numTok hT g4 g5 hb.1 (by omega)), if_neg k2]
  have hneg : ¬ fo c L (tks c L b) (tke c L b - tks c L b) < 0 := fun z => by
    have k4 := k3.1
    rw [Int32.le_iff_toInt_le] at k4
    rw [Int32.lt_iff_toInt_lt, z0T] at z
    omega
  rw [if_neg hneg, isW, bd_some, if_pos k3, if_neg (by decide)]
  exact ⟨τ, rfl, hX, hH⟩
def ouC (q q1 : Nat) (r4 : Int32) (σ8 : Mem) : Option (Unit × Mem) :=
  bd (f_Txt_readNumber q (0 : Int32) (9999 : Int32) σ8) fun r9 σ10 =>
  bd (f_Txt_readNumber q r9 (9999 : Int32) σ10) fun r11 σ12 =>
  bd (f_Txt_readEndOfItem q σ12) fun _ σ14 =>
  if (σ14 q 2) = 0 then
    bd (f_Out_add (q1 + 4) r4 r9 r11 σ14) fun r15 σ16 =>
    some ((), σ16)
  else
    some ((), σ14)
def ouD (q q1 : Nat) (σ3 : Mem) : Option (Unit × Mem) :=
  bd (f_Txt_readNumber q (0 : Int32) ((σ3 q1 4) - (1 : Int32)) σ3) fun r4 σ5 =>
  if (σ5 q 2) = 0 then
    bd (f_Hub_isPhysical q1 r4 σ5) fun r6 σ7 =>
    if r6 = 0 then
      lt (wr σ7 q 2 (1 : Int32)) fun σ8 => ouC q q1 r4 σ8
    else
      lt (wr σ7 q 2 (0 : Int32)) fun σ8 => ouC q q1 r4 σ8
  else
    lt (wr σ5 q 2 (1 : Int32)) fun σ8 => ouC q q1 r4 σ8
theorem ou1_inl {c : Nat → Int32} {L : Nat} {S : Nat → Int32} {st : Nat ⊕ Nat} {b' : Nat} (h : ou1 c L S st = .inl b') : ∃ b, st = .inl b := by
  cases st with
  | inl b => exact ⟨b, rfl⟩
  | inr s => cases h
theorem ouC_s {σ0 σ : Mem} {c : Nat → Int32} {L : Nat} {S : Nat → Int32} {st : Nat ⊕ Nat} {r : Int32} (h : TX σ c L) (hX : X7 σ0 σ) (hs : cS σ L (ou1 c L S st)) (hr : ∀ b, ou1 c L S st = .inl b → r = vlP c L st) (hW : WF S) (hn : ∀ b, st = .inl b → gI S 2 < 4) (hR : RH σ 43 S) (hB : FBq σ 43) : ∃ σ', ouC 297 43 r σ = some ((), σ') ∧ XC σ0 σ' ∧ gkC σ' L (oug c L S st) (rdE c L (ou3 c L S st)) := by
  obtain ⟨r2, σ2, e2, X2, s2, v2⟩ := rdn_c (lo := 0) (hi := 9999) h (fun _ _ => by decide) hs
  have T2 := X7_T X2 h
  have pos : ∀ b, ou2 c L S st = .inl b → 0 ≤ (vlP c L (ou1 c L S st)).toInt := fun b hb => by
    obtain ⟨_, _, _, _, w⟩ := rdP_inl (st := ou1 c L S st) hb
    rw [z0T] at w
    exact w.1
  obtain ⟨r3, σ3, e3, X3, s3, v3⟩ := rdn_c (lo := r2) (hi := 9999) T2 (fun b hb => by rw [v2 b hb]; exact pos b hb) s2
  have T3 := X7_T X3 T2
  have hlo : rdP c L r2 9999 (ou2 c L S st) = ou3 c L S st := rdP_c (fun b hb => ⟨v2 b hb, rfl⟩)
  have s3' : cS σ3 L (ou3 c L S st) := by rw [← hlo]; exact s3
  have v3' : ∀ b, ou3 c L S st = .inl b → r3 = vlP c L (ou2 c L S st) := fun b hb => v3 b (hlo.trans hb)
  obtain ⟨σ4, e4, X4, s4⟩ := rde_c T3 s3'
  have XA : X7 σ σ4 := X7_t X2 (X7_t X3 X4)
  have R4 := X7_R hW.1 XA hR
  have B4 := X7_B XA hB
  unfold ouC
  rw [bd_eq e2, bd_eq e3, bd_eq e4]
  cases hE : rdE c L (ou3 c L S st) with
  | inl b =>
    rw [hE] at s4
    obtain ⟨b3, g3⟩ := rdE_inl hE
    obtain ⟨b2, g2, _⟩ := rdP_inl (st := ou2 c L S st) g3
    obtain ⟨b1, g1, _⟩ := rdP_inl (st := ou1 c L S st) g2
    obtain ⟨b0, g0⟩ := ou1_inl g1
    rw [if_pos ((cS_2 s4).1 b rfl), hr b1 g1, v2 b2 g2, v3' b3 g3]
    obtain ⟨σ8, e8, r8, w8⟩ := gap_X (x := vlP c L st) (y := vlP c L (ou1 c L S st)) (z := vlP c L (ou2 c L S st)) hW (hn b0 g0) R4
    exact ⟨σ8, bd_eq e8 _, XC_t (XC_7 (X7_t hX XA)) (XC_43 (fun w hw => w8 w (by omega))), cS_k (w8 297 (by omega)) s4, fun i hi => by rw [w8 _ (by omega)]; exact B4 i hi, fun _ _ => r8⟩
  | inr s =>
    rw [hE] at s4
    rw [if_neg (show ¬ σ4 297 2 = 0 by rw [(cS_2 s4).2 s rfl]; decide)]
    exact ⟨σ4, rfl, XC_7 (X7_t hX XA), s4, B4, fun b hb => by cases hb⟩
theorem okN_p {c : Nat → Int32} {L b : Nat} {S : Nat → Int32} {bb : Int} (hG : WG S bb) (hk : okN c L 0 (S 1 - 1) b) : 0 ≤ (fo c L (tks c L b) (tke c L b - tks c L b)).toInt ∧ (fo c L (tks c L b) (tke c L b - tks c L b)).toInt < gI S 1 := by
  have k := inR.mp hk.2.2
  have hm := S1m hG
  rw [z0T, hm] at k
  have h1 := hG.2.2.1
  unfold nS gI at *
  omega
theorem out_c {σ : Mem} {c : Nat → Int32} {L : Nat} {S : Nat → Int32} {st : Nat ⊕ Nat} (h : TX σ c L) (hs : cS σ L st) (hW : WF S) (hn : ∀ b, st = .inl b → gI S 2 < 4) (hR : RH σ 43 S) (hB : FBq σ 43) : ∃ σ', ouD 297 43 σ = some ((), σ') ∧ XC σ σ' ∧ gkC σ' L (oug c L S st) (rdE c L (ou3 c L S st)) := by
  have p1 : σ 43 4 = S 1 := hR.1.2.2.2.2.1
  have hL := h.2.2.1
  unfold ouD
  rw [p1]
  have bad1 : ∀ s, rdP c L 0 (S 1 - 1) st = .inr s → ou1 c L S st = .inr s := fun s hE => by
    cases st with
    | inl b =>
      by_cases hk : okN c L 0 (S 1 - 1) b
      · rw [show rdP c L 0 (S 1 - 1) (.inl b) = .inl (tke c L b) from if_pos hk] at hE
        cases hE
      · rw [show rdP c L 0 (S 1 - 1) (.inl b) = .inr (tks c L b) from if_neg hk] at hE
        rw [← hE]
        exact if_neg (fun z => hk z.1)
    | inr s' => exact hE
  have fail : ∀ s, rdP c L 0 (S 1 - 1) st = .inr s → ∃ σ', (bd (f_Txt_readNumber 297 (0 : Int32) (S 1 - (1 : Int32)) σ) fun r4 σ5 => if (σ5 297 2) = 0 then bd (f_Hub_isPhysical 43 r4 σ5) fun r6 σ7 => if r6 = 0 then lt (wr σ7 297 2 (1 : Int32)) fun σ8 => ouC 297 43 r4 σ8 else lt (wr σ7 297 2 (0 : Int32)) fun σ8 => ouC 297 43 r4 σ8 else lt (wr σ5 297 2 (1 : Int32)) fun σ8 => ouC 297 43 r4 σ8) = some ((), σ') ∧ XC σ σ' ∧ gkC σ' L (oug c L S st) (rdE c L (ou3 c L S st)) := fun s hE => by
    obtain ⟨r1, σ1, e1, X1, s1, _⟩ := rdn_c (lo := 0) (hi := S 1 - 1) h (fun _ _ => by decide) hs
    have g1 := bad1 s hE
    rw [hE] at s1
    have h2 : σ1 297 2 = 1 := (cS_2 s1).2 s rfl
    rw [bd_eq e1, if_neg (show ¬ σ1 297 2 = 0 by rw [h2]; decide), lt_eq, wr_id h2]
    exact ouC_s (X7_T X1 h) X1 (by rw [g1]; exact s1) (fun b hb => by rw [g1] at hb; cases hb) hW hn (X7_R hW.1 X1 hR) (X7_B X1 hB)
  cases st with
  | inr s => exact fail s rfl
  | inl b =>
    by_cases hk : okN c L 0 (S 1 - 1) b
    · obtain ⟨σ1, e1, X1, hH⟩ := rdn_h h (by decide) hs hk
      have R1 := X7_R hW.1 X1 hR
      have B1 := X7_B X1 hB
      have hp := okN_p hW.1 hk
      rw [bd_eq e1, if_pos hH.2.1, bd_eq (isPhys_X hW.1 R1)]
      by_cases h4 : S (11 + 19 * (fo c L (tks c L b) (tke c L b - tks c L b)).toInt.toNat) = 4
      · have g1 : ou1 c L S (.inl b) = .inl (tke c L b) := if_pos ⟨hk, h4⟩
        have hc : 0 ≤ (fo c L (tks c L b) (tke c L b - tks c L b)).toInt ∧ (fo c L (tks c L b) (tke c L b - tks c L b)).toInt < gI S 1 ∧ S (11 + 19 * (fo c L (tks c L b) (tke c L b - tks c L b)).toInt.toNat) = 4 := ⟨hp.1, hp.2, h4⟩
        rw [if_pos hc, if_neg i1n, lt_eq, wr_id hH.2.1]
        exact ouC_s (X7_T X1 h) X1 (by rw [g1]; exact cH_S hH) (fun _ _ => rfl) hW hn R1 B1
      · have g1 : ou1 c L S (.inl b) = .inr (tks c L b) := if_neg (fun z => h4 z.2)
        rw [if_neg (fun z : _ ∧ _ ∧ _ => h4 z.2.2), if_pos rfl, lt_eq]
        have X2 : X7 σ (wr σ1 297 2 1) := X7_t X1 (X7_w (by decide))
        exact ouC_s (X7_T X2 h) X2 (by rw [g1]; exact cB_w hH hL) (fun b' hb' => by rw [g1] at hb'; cases hb') hW hn (X7_R hW.1 X2 hR) (X7_B X2 hB)
    · exact fail (tks c L b) (if_neg hk)
/-! the reference's -/
def ouN (q : Nat) (σ5 : Mem) : Option (Unit × Mem) :=
  bd (f_M_take_II q (0 : Int32) (7 : Int32) σ5) fun r6 σ7 =>
  bd (f_M_take_II q (0 : Int32) (9999 : Int32) σ7) fun r8 σ9 =>
  bd (f_M_take_II q r8 (9999 : Int32) σ9) fun r10 σ11 =>
  if (σ11 q 15) = 0 then
    bd (f_M_addGap q r6 r8 r10 σ11) fun r12 σ13 =>
    some ((), σ13)
  else
    some ((), σ11)
def ouM (q : Nat) (σ2 : Mem) : Option (Unit × Mem) :=
  if (σ2 q 15) = 0 then
    if (σ2 q 13) = (1 : Int32) then
      bd (f_M_isPhysical q (σ2 q 14) σ2) fun r3 σ4 =>
      if r3 = 0 then
        lt (wr σ4 q 15 (1 : Int32)) fun σ5 => ouN q σ5
      else
        lt (wr σ4 q 15 (0 : Int32)) fun σ5 => ouN q σ5
    else
      lt (wr σ2 q 15 (1 : Int32)) fun σ5 => ouN q σ5
  else
    lt (wr σ2 q 15 (1 : Int32)) fun σ5 => ouN q σ5
theorem readOutage_e {q : Nat} {σ : Mem} : f_M_readOutage q σ = if (4 : Int32) ≤ (σ (q + 1) 2) then bd (f_M_take_Z q (0 : Int32) σ) fun _ σ2 => ouM q σ2 else bd (f_M_take_Z q (1 : Int32) σ) fun _ σ2 => ouM q σ2 := rfl
theorem ouN_s {τ0 τ : Mem} {c : Nat → Int32} {L : Nat} {S : Nat → Int32} {st st' : Nat ⊕ Nat} (h : TM τ c L) (hX : X9 τ0 τ) (hs : rH τ c L st') (h7 : rdP c L 0 7 st' = ou1 c L S st) (hv : ∀ b, ou1 c L S st = .inl b → vlP c L st' = vlP c L st) (hW : WF S) (hn : ∀ b, st = .inl b → gI S 2 < 4) (h300 : τ0 300 = S) : ∃ τ', ouN 299 τ = some ((), τ') ∧ XM τ0 τ' ∧ gkM τ' c L (oug c L S st) (ou3 c L S st) := by
  obtain ⟨r1, σ1, e1, X1, s1, v1⟩ := take_m (lo := 0) (hi := 7) h (fun _ _ => by decide) hs
  have T1 := X9_T X1 h
  rw [h7] at s1 v1
  obtain ⟨r2, σ2, e2, X2, s2, v2⟩ := take_m (lo := 0) (hi := 9999) T1 (fun _ _ => by decide) s1
  have T2 := X9_T X2 T1
  have pos : ∀ b, ou2 c L S st = .inl b → 0 ≤ (vlP c L (ou1 c L S st)).toInt := fun b hb => by
    obtain ⟨_, _, _, _, w⟩ := rdP_inl (st := ou1 c L S st) hb
    rw [z0T] at w
    exact w.1
  obtain ⟨r3, σ3, e3, X3, s3, v3⟩ := take_m (lo := r2) (hi := 9999) T2 (fun b hb => by rw [v2 b hb]; exact pos b hb) s2
  have hlo : rdP c L r2 9999 (ou2 c L S st) = ou3 c L S st := rdP_c (fun b hb => ⟨v2 b hb, rfl⟩)
  have s3' : rH σ3 c L (ou3 c L S st) := by rw [← hlo]; exact s3
  have v3' : ∀ b, ou3 c L S st = .inl b → r3 = vlP c L (ou2 c L S st) := fun b hb => v3 b (hlo.trans hb)
  have XA : X9 τ0 σ3 := X9_t hX (X9_t X1 (X9_t X2 X3))
  have t0 : σ3 300 = S := (XA.1 300 (by decide)).trans h300
  unfold ouN
  rw [bd_eq e1, bd_eq e2, bd_eq e3]
  cases hE : ou3 c L S st with
  | inl b =>
    rw [hE] at s3'
    obtain ⟨b2, g2, _⟩ := rdP_inl (st := ou2 c L S st) hE
    obtain ⟨b1, g1, _⟩ := rdP_inl (st := ou1 c L S st) g2
    obtain ⟨b0, g0⟩ := ou1_inl g1
    rw [if_pos ((rH_15 s3').1 b rfl), v1 b1 g1, hv b1 g1, v2 b2 g2, v3' b hE]
    have hp := gap_M (τ := σ3) (a := vlP c L st) (b := vlP c L (ou1 c L S st)) (c := vlP c L (ou2 c L S st)) (by rw [t0]; exact ⟨hW.1.2.2.2.1.1, hn b0 g0⟩)
    rw [t0] at hp
    exact ⟨_, bd_eq hp _, XM_t (XM_9 XA) XM_r, rH_k (wrow_m (by decide)) s3', fun _ _ => wrow_h⟩
  | inr s =>
    rw [hE] at s3'
    rw [if_neg (show ¬ σ3 299 15 = 0 by rw [(rH_15 s3').2 s rfl]; decide)]
    exact ⟨σ3, rfl, XM_9 XA, s3', fun b hb => by cases hb⟩
theorem out_m {τ : Mem} {c : Nat → Int32} {L : Nat} {S : Nat → Int32} {st : Nat ⊕ Nat} (h : TM τ c L) (hs : rH τ c L st) (hW : WF S) (hn : ∀ b, st = .inl b → gI S 2 < 4) (h300 : τ 300 = S) : ∃ τ', ouM 299 τ = some ((), τ') ∧ XM τ τ' ∧ gkM τ' c L (oug c L S st) (ou3 c L S st) := by
  unfold ouM
  cases st with
  | inr s =>
    have e15 : τ 299 15 = 1 := hs.1
    rw [if_neg (show ¬ τ 299 15 = 0 by rw [e15]; decide), lt_eq, wr_id e15]
    exact ouN_s (st' := .inr s) h X9_r hs rfl (fun b hb => by cases hb) hW hn h300
  | inl b =>
    have h3k := tkd_3 (c := c) (L := L) (b := b)
    have bad1 : ¬ (okN c L 0 (S 1 - 1) b ∧ S (11 + 19 * (fo c L (tks c L b) (tke c L b - tks c L b)).toInt.toNat) = 4) → ∃ τ', ouN 299 (wr τ 299 15 1) = some ((), τ') ∧ XM τ τ' ∧ gkM τ' c L (oug c L S (.inl b)) (ou3 c L S (.inl b)) := fun hno => by
      have g1 : ou1 c L S (.inl b) = .inr (tks c L b) := if_neg hno
      exact ouN_s (st' := .inr (tks c L b)) (X9_T (X9_w (by omega)) h) (X9_w (by omega)) (fail_m hs) g1.symm (fun b' hb' => by rw [g1] at hb'; cases hb') hW hn h300
    have hb1 := hW.1.2.2.1
    rw [if_pos hs.2.1, hs.2.2.1]
    by_cases h2 : tkd c L b = 2
    · rw [if_pos ((rk_1 h3k).mpr h2), bd_eq (isPhys_M (by rw [h300]; exact hb1)), hs.2.2.2.2.2, h300]
      by_cases hc : 0 ≤ (rval c L b).toInt ∧ (rval c L b).toInt < gI S 1 ∧ S (11 + 19 * (rval c L b).toInt.toNat) = 4
      · rw [if_pos hc, if_neg i1n, lt_eq, wr_id hs.2.1]
        have hbad : ¬ bad c L (tks c L b) (tke c L b) := fun z => by
          have := hc.1
          rw [rval, if_pos h2, if_pos z] at this
          exact absurd this (by decide)
        have er : rval c L b = fo c L (tks c L b) (tke c L b - tks c L b) := by rw [rval, if_pos h2, if_neg hbad]
        rw [er] at hc
        have hm := S1m hW.1
        have hk : okN c L 0 (S 1 - 1) b := ⟨h2, hbad, inR.mpr (by rw [z0T, hm]; have := hc.1; have := hc.2.1; unfold nS gI at *; omega)⟩
        have hk7 : okN c L 0 7 b := ⟨h2, hbad, inR.mpr (by rw [z0T, show (7 : Int32).toInt = 7 by decide]; have := hc.1; have := hc.2.1; unfold gI at *; omega)⟩
        have g1 : ou1 c L S (.inl b) = .inl (tke c L b) := if_pos ⟨hk, hc.2.2⟩
        exact ouN_s (st' := .inl b) h X9_r hs (by rw [g1]; exact if_pos hk7) (fun _ _ => rfl) hW hn h300
      · rw [if_neg hc, if_pos rfl, lt_eq]
        refine bad1 (fun z => hc ?_)
        obtain ⟨hk, h4⟩ := z
        have hp := okN_p hW.1 hk
        rw [rval, if_pos h2, if_neg hk.2.1]
        exact ⟨hp.1, hp.2, h4⟩
    · rw [if_neg (fun z => h2 ((rk_1 h3k).mp z)), lt_eq]
      exact bad1 (fun z => h2 z.1.1)
