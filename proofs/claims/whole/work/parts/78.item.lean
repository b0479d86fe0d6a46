/-! an item, on both sides -/
def Pm (L : Nat) (st st' : Nat ⊕ Nat) : Prop := ∀ b', st' = .inl b' → ∃ b, st = .inl b ∧ (b ≤ L → b ≤ b' ∧ b' ≤ L)
theorem Pm_t {L : Nat} {s s' s'' : Nat ⊕ Nat} (h : Pm L s s') (h' : Pm L s' s'') : Pm L s s'' := fun b'' hb => by
  obtain ⟨b', e', k'⟩ := h' b'' hb
  obtain ⟨b, e, k⟩ := h b' e'
  exact ⟨b, e, fun hl => ⟨Nat.le_trans (k hl).1 (k' (k hl).2).1, (k' (k hl).2).2⟩⟩
theorem tke_m {c : Nat → Int32} {L b : Nat} (h : b ≤ L) : b ≤ tke c L b ∧ tke c L b ≤ L := by
  have := tks_b (c := c) h
  have := tke_b (c := c) h
  omega
theorem Pm_P {c : Nat → Int32} {L : Nat} {lo hi : Int32} {st : Nat ⊕ Nat} : Pm L st (rdP c L lo hi st) := fun b' hb => by
  obtain ⟨b, e, _, rfl, _⟩ := rdP_inl hb
  exact ⟨b, e, fun hl => tke_m hl⟩
theorem Pm_E {c : Nat → Int32} {L : Nat} {st : Nat ⊕ Nat} : Pm L st (rdE c L st) := fun b' hb => by
  cases st with
  | inl b =>
    by_cases h : chA c L (tks c L b) = 59
    · rw [show rdE c L (.inl b) = .inl (tke c L b) from if_pos h] at hb
      rw [← Sum.inl.inj hb]
      exact ⟨b, rfl, fun hl => tke_m hl⟩
    · rw [show rdE c L (.inl b) = .inr (tks c L b) from if_neg h] at hb
      cases hb
  | inr s => cases hb
theorem Pm_1 {c : Nat → Int32} {L : Nat} {S : Nat → Int32} {st : Nat ⊕ Nat} : Pm L st (ou1 c L S st) := fun b' hb => by
  cases st with
  | inl b =>
    by_cases h : okN c L 0 (S 1 - 1) b ∧ S (11 + 19 * (fo c L (tks c L b) (tke c L b - tks c L b)).toInt.toNat) = 4
    · rw [show ou1 c L S (.inl b) = .inl (tke c L b) from if_pos h] at hb
      rw [← Sum.inl.inj hb]
      exact ⟨b, rfl, fun hl => tke_m hl⟩
    · rw [show ou1 c L S (.inl b) = .inr (tks c L b) from if_neg h] at hb
      cases hb
  | inr s => cases hb
theorem Pm_ph {c : Nat → Int32} {L : Nat} {st : Nat ⊕ Nat} : Pm L st (rdE c L (ph6 c L st)) := Pm_t (Pm_t (Pm_t (Pm_t (Pm_t (Pm_t Pm_P Pm_P) Pm_P) Pm_P) Pm_P) Pm_P) Pm_E
theorem Pm_dr {c : Nat → Int32} {L : Nat} {S : Nat → Int32} {k : Int32} {st : Nat ⊕ Nat} : Pm L st (rdE c L (dr2 c L S k st)) := by
  refine Pm_t ?_ Pm_E
  unfold dr2
  by_cases h : k = 3
  · rw [if_pos h]; exact Pm_t Pm_P Pm_P
  · rw [if_neg h]; exact Pm_t Pm_P Pm_P
theorem Pm_ou {c : Nat → Int32} {L : Nat} {S : Nat → Int32} {st : Nat ⊕ Nat} : Pm L st (rdE c L (ou3 c L S st)) := Pm_t (Pm_t (Pm_t Pm_1 Pm_P) Pm_P) Pm_E
abbrev w0 : List Int32 := [115, 101, 110, 115, 111, 114]
abbrev w1 : List Int32 := [115, 117, 109]
abbrev w2 : List Int32 := [100, 105, 102, 102]
abbrev w3 : List Int32 := [109, 97, 120]
abbrev w4 : List Int32 := [109, 101, 97, 110]
abbrev w5 : List Int32 := [111, 117, 116, 97, 103, 101]
def stc (c : Nat → Int32) (L b : Nat) (C : Prop) [Decidable C] : Nat ⊕ Nat := if C then .inl (tke c L b) else .inr (tks c L b)
abbrev sb8 (c : Nat → Int32) (L : Nat) (S : Nat → Int32) (b : Nat) : Nat ⊕ Nat := stc c L b (nS S < 8)
abbrev sb4 (c : Nat → Int32) (L : Nat) (S : Nat → Int32) (b : Nat) : Nat ⊕ Nat := stc c L b (gI S 2 < 4)
/-- the item that begins with the token at b: where it ends or fails, and the row behind it -/
def itm (c : Nat → Int32) (L : Nat) (S : Nat → Int32) (b : Nat) : (Nat ⊕ Nat) × (Nat → Int32) :=
  if kw c L b w0 then (rdE c L (ph6 c L (sb8 c L S b)), rowA S (phg c L (sb8 c L S b)))
  else if kw c L b w1 then (rdE c L (dr2 c L S 0 (sb8 c L S b)), rowA S (drg c L S 0 (sb8 c L S b)))
  else if kw c L b w2 then (rdE c L (dr2 c L S 1 (sb8 c L S b)), rowA S (drg c L S 1 (sb8 c L S b)))
  else if kw c L b w3 then (rdE c L (dr2 c L S 2 (sb8 c L S b)), rowA S (drg c L S 2 (sb8 c L S b)))
  else if kw c L b w4 then (rdE c L (dr2 c L S 3 (sb8 c L S b)), rowA S (drg c L S 3 (sb8 c L S b)))
  else if kw c L b w5 then (rdE c L (ou3 c L S (sb4 c L S b)), oug c L S (sb4 c L S b))
  else (.inr (tks c L b), S)
theorem stc_y {c : Nat → Int32} {L b : Nat} {C : Prop} [Decidable C] {b' : Nat} (h : stc c L b C = .inl b') : C ∧ b' = tke c L b := by
  unfold stc at h
  by_cases hc : C
  · rw [if_pos hc] at h
    exact ⟨hc, (Sum.inl.inj h).symm⟩
  · rw [if_neg hc] at h
    cases h
theorem Pm_go {c : Nat → Int32} {L b : Nat} {C : Prop} [Decidable C] {st : Nat ⊕ Nat} {b' : Nat} (hb : b ≤ L) (h : Pm L (stc c L b C) st) (he : st = .inl b') : tke c L b ≤ b' ∧ b' ≤ L := by
  obtain ⟨b0, e0, k⟩ := h b' he
  obtain ⟨_, rfl⟩ := stc_y e0
  exact k (tke_m hb).2
theorem ph_W {c : Nat → Int32} {L : Nat} {S : Nat → Int32} {st : Nat ⊕ Nat} {b' : Nat} (hW : WF S) (hn : nS S < 8) (h : rdE c L (ph6 c L st) = .inl b') : WF (rowA S (phg c L st)) ∧ gI (rowA S (phg c L st)) 0 = gI S 0 := by
  obtain ⟨b6, g6⟩ := rdE_inl h
  obtain ⟨_, _, _, _, _, _, q1, q2, q3, q4, q5, q6⟩ := ph_ok g6
  have g0 : gI (rowA S (phg c L st)) 0 = gI S 0 := congrArg Int32.toInt (rowA_m (by omega) (by omega))
  refine ⟨?_, g0⟩
  unfold WF
  rw [g0]
  exact add_W hW hn (fun k h7 _ => gP_0 h7) (phy_WP q1 q2 q3 q4 q5 q6) hW.1.1.1
theorem dr_W {c : Nat → Int32} {L : Nat} {S : Nat → Int32} {k : Int32} {st : Nat ⊕ Nat} {b' : Nat} (hk : 0 ≤ k.toInt ∧ k.toInt ≤ 3) (hW : WF S) (hn : nS S < 8) (h : rdE c L (dr2 c L S k st) = .inl b') : WF (rowA S (drg c L S k st)) ∧ gI (rowA S (drg c L S k st)) 0 = gI S 0 := by
  obtain ⟨b2, g2⟩ := rdE_inl h
  obtain ⟨_, _, q1, q2⟩ := dr_ok hW.1 g2
  have g0 : gI (rowA S (drg c L S k st)) 0 = gI S 0 := congrArg Int32.toInt (rowA_m (by omega) (by omega))
  refine ⟨?_, g0⟩
  unfold WF
  rw [g0]
  exact add_W hW hn (fun k h7 _ => gG_0 (by omega)) (der_WP hk q1 q2) hW.1.1.1
theorem ou_W {c : Nat → Int32} {L : Nat} {S : Nat → Int32} {st : Nat ⊕ Nat} (hW : WF S) (hn : gI S 2 < 4) : WF (oug c L S st) ∧ gI (oug c L S st) 0 = gI S 0 := by
  obtain ⟨h1, _, h2, _⟩ := gap_W (x := vlP c L st) (y := vlP c L (ou1 c L S st)) (z := vlP c L (ou2 c L S st)) hW hn
  have g0 : gI (oug c L S st) 0 = gI S 0 := congrArg Int32.toInt (h2 0 (by omega) (by omega))
  refine ⟨?_, g0⟩
  unfold WF
  rw [g0]
  exact h1
theorem itm_ok {c : Nat → Int32} {L : Nat} {S : Nat → Int32} {b b' : Nat} (hb : b ≤ L) (hW : WF S) (h : (itm c L S b).1 = .inl b') : WF (itm c L S b).2 ∧ gI (itm c L S b).2 0 = gI S 0 ∧ tke c L b ≤ b' ∧ b' ≤ L := by
  have d : ∀ k : Int32, 0 ≤ k.toInt ∧ k.toInt ≤ 3 → rdE c L (dr2 c L S k (sb8 c L S b)) = .inl b' → WF (rowA S (drg c L S k (sb8 c L S b))) ∧ gI (rowA S (drg c L S k (sb8 c L S b))) 0 = gI S 0 ∧ tke c L b ≤ b' ∧ b' ≤ L := fun k hk h => by
    obtain ⟨b2, g2⟩ := rdE_inl h
    obtain ⟨⟨b0, g0⟩, _⟩ := dr_ok hW.1 g2
    obtain ⟨u1, u2⟩ := dr_W hk hW (stc_y g0).1 h
    exact ⟨u1, u2, Pm_go hb Pm_dr h⟩
  unfold itm at h ⊢
  by_cases k0 : kw c L b w0
  · rw [if_pos k0] at h ⊢
    obtain ⟨b6, g6⟩ := rdE_inl h
    obtain ⟨⟨b0, g0⟩, _⟩ := ph_ok g6
    obtain ⟨u1, u2⟩ := ph_W hW (stc_y (g0.elim (fun z => z.1) (fun z => z.1))).1 h
    exact ⟨u1, u2, Pm_go hb Pm_ph h⟩
  rw [if_neg k0] at h ⊢
  by_cases k1 : kw c L b w1
  · rw [if_pos k1] at h ⊢
    exact d 0 (by decide) h
  rw [if_neg k1] at h ⊢
  by_cases k2 : kw c L b w2
  · rw [if_pos k2] at h ⊢
    exact d 1 (by decide) h
  rw [if_neg k2] at h ⊢
  by_cases k3 : kw c L b w3
  · rw [if_pos k3] at h ⊢
    exact d 2 (by decide) h
  rw [if_neg k3] at h ⊢
  by_cases k4 : kw c L b w4
  · rw [if_pos k4] at h ⊢
    exact d 3 (by decide) h
  rw [if_neg k4] at h ⊢
  by_cases k5 : kw c L b w5
  · rw [if_pos k5] at h ⊢
    obtain ⟨b3, g3⟩ := rdE_inl h
    obtain ⟨b2, g2, _⟩ := rdP_inl (st := ou2 c L S (sb4 c L S b)) g3
    obtain ⟨b1, g1, _⟩ := rdP_inl (st := ou1 c L S (sb4 c L S b)) g2
    obtain ⟨b0, g0⟩ := ou1_inl g1
    obtain ⟨u1, u2⟩ := ou_W (c := c) (L := L) (st := sb4 c L S b) hW (stc_y g0).1
    exact ⟨u1, u2, Pm_go hb Pm_ou h⟩
  · rw [if_neg k5] at h
    cases h
