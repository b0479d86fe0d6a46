/-! an item of a derived sensor, on both sides -/
theorem m1I : ∀ n : Nat, n ≤ 8 → (nI n - 1).toInt = (n : Int) - 1 := by decide
theorem S1m {S : Nat → Int32} {b : Int} (hG : WG S b) : (S 1 - 1).toInt = (nS S : Int) - 1 := by
  rw [nS_toI hG]
  exact m1I _ (nS_le hG)
def dr1 (c : Nat → Int32) (L : Nat) (S : Nat → Int32) (st : Nat ⊕ Nat) : Nat ⊕ Nat := rdP c L 0 (S 1 - 1) st
def dr2 (c : Nat → Int32) (L : Nat) (S : Nat → Int32) (k : Int32) (st : Nat ⊕ Nat) : Nat ⊕ Nat := if k = 3 then rdP c L 1 8 (dr1 c L S st) else rdP c L 0 (S 1 - 1) (dr1 c L S st)
def drg (c : Nat → Int32) (L : Nat) (S : Nat → Int32) (k : Int32) (st : Nat ⊕ Nat) : Nat → Int32 := gG k (vlP c L st) (vlP c L (dr1 c L S st)) 0 0
theorem dr_ok {c : Nat → Int32} {L : Nat} {S : Nat → Int32} {k : Int32} {bb : Int} {st : Nat ⊕ Nat} {b2 : Nat} (hG : WG S bb) (h : dr2 c L S k st = .inl b2) : (∃ b, st = .inl b) ∧ (∃ b, dr1 c L S st = .inl b) ∧ (0 ≤ (vlP c L st).toInt ∧ (vlP c L st).toInt < nS S) ∧ ((k = 3 → 1 ≤ (vlP c L (dr1 c L S st)).toInt ∧ (vlP c L (dr1 c L S st)).toInt ≤ 8) ∧ (k ≠ 3 → 0 ≤ (vlP c L (dr1 c L S st)).toInt ∧ (vlP c L (dr1 c L S st)).toInt < nS S)) := by
  have hm := S1m hG
  have i8 : (8 : Int32).toInt = 8 := by decide
  have h1 : ∃ b, dr1 c L S st = .inl b ∧ ((k = 3 → 1 ≤ (vlP c L (dr1 c L S st)).toInt ∧ (vlP c L (dr1 c L S st)).toInt ≤ 8) ∧ (k ≠ 3 → 0 ≤ (vlP c L (dr1 c L S st)).toInt ∧ (vlP c L (dr1 c L S st)).toInt < nS S)) := by
    unfold dr2 at h
    by_cases hk : k = 3
    · rw [if_pos hk] at h
      obtain ⟨b1, e1, _, _, v2⟩ := rdP_inl h
      rw [i1T, i8] at v2
      exact ⟨b1, e1, fun _ => v2, fun z => absurd hk z⟩
    · rw [if_neg hk] at h
      obtain ⟨b1, e1, _, _, v2⟩ := rdP_inl h
      rw [z0T, hm] at v2
      exact ⟨b1, e1, fun z => absurd z hk, fun _ => by omega⟩
  obtain ⟨b1, e1, w1⟩ := h1
  obtain ⟨b0, e0, _, _, v1⟩ := rdP_inl (st := st) e1
  rw [z0T, hm] at v1
  exact ⟨⟨b0, e0⟩, ⟨b1, e1⟩, by omega, w1⟩
def drC (q q1 : Nat) (p2 : Int32) (σ3 : Mem) : Option (Unit × Mem) :=
  bd (f_Txt_readNumber q (0 : Int32) ((σ3 q1 4) - (1 : Int32)) σ3) fun r4 σ5 =>
  if p2 = (3 : Int32) then
    bd (f_Txt_readNumber q (1 : Int32) (8 : Int32) σ5) fun r6 σ7 =>
    bd (f_Txt_readEndOfItem q σ7) fun _ σ9 =>
    if (σ9 q 2) = 0 then
      bd (f_Hub_addComputed q1 p2 r4 r6 σ9) fun r10 σ11 =>
      some ((), σ11)
    else
      some ((), σ9)
  else
    bd (f_Txt_readNumber q (0 : Int32) ((σ5 q1 4) - (1 : Int32)) σ5) fun r12 σ13 =>
    bd (f_Txt_readEndOfItem q σ13) fun _ σ15 =>
    if (σ15 q 2) = 0 then
      bd (f_Hub_addComputed q1 p2 r4 r12 σ15) fun r16 σ17 =>
      some ((), σ17)
    else
      some ((), σ15)
theorem der_c {σ : Mem} {c : Nat → Int32} {L : Nat} {S : Nat → Int32} {k : Int32} {st : Nat ⊕ Nat} (h : TX σ c L) (hk : 0 ≤ k.toInt ∧ k.toInt ≤ 3) (hs : cS σ L st) (hW : WF S) (hn : ∀ b, st = .inl b → nS S < 8) (hR : RH σ 43 S) (hB : FBq σ 43) : ∃ σ', drC 297 43 k σ = some ((), σ') ∧ XC σ σ' ∧ gkC σ' L (rowA S (drg c L S k st)) (rdE c L (dr2 c L S k st)) := by
  have p1 : σ 43 4 = S 1 := hR.1.2.2.2.2.1
  obtain ⟨r1, σ1, e1, X1, s1, v1⟩ := rdn_c (lo := 0) (hi := S 1 - 1) h (fun _ _ => by decide) hs
  have T1 := X7_T X1 h
  have q1 : σ1 43 4 = S 1 := by rw [X1.1 43 (by decide)]; exact p1
  unfold drC
  rw [p1, bd_eq e1, q1]
  have fin : ∀ (r2 : Int32) (σ2 : Mem) (st2 : Nat ⊕ Nat), X7 σ1 σ2 → cS σ2 L st2 → st2 = dr2 c L S k st → (∀ b, st2 = .inl b → r2 = vlP c L (dr1 c L S st)) → ∃ σ', (bd (f_Txt_readEndOfItem 297 σ2) fun _ σ9 => if (σ9 297 2) = 0 then bd (f_Hub_addComputed 43 k r1 r2 σ9) fun r10 σ11 => some ((), σ11) else some ((), σ9)) = some ((), σ') ∧ XC σ σ' ∧ gkC σ' L (rowA S (drg c L S k st)) (rdE c L (dr2 c L S k st)) := fun r2 σ2 st2 X2 s2 h2 v2 => by
    have T2 := X7_T X2 T1
    obtain ⟨σ3, e3, X3, s3⟩ := rde_c T2 s2
    have XA : X7 σ σ3 := X7_t X1 (X7_t X2 X3)
    have R3 := X7_R hW.1 XA hR
    have B3 := X7_B XA hB
    rw [bd_eq e3]
    rw [← h2]
    cases hE : rdE c L st2 with
    | inl b =>
      rw [hE] at s3
      obtain ⟨b2, g2⟩ := rdE_inl hE
      obtain ⟨⟨b0, g0⟩, ⟨b1, g1⟩, w1, w2⟩ := dr_ok hW.1 (h2.symm.trans g2)
      rw [if_pos ((cS_2 s3).1 b rfl), v1 b1 g1, v2 b2 g2]
      obtain ⟨σ8, e8, r8, w8, f8⟩ := der_X hW (hn b0 g0) hk w1 w2 hW.1.1.1 R3
      exact ⟨σ8, bd_eq e8 _, XC_t (XC_7 XA) (XC_43 (fun w hw => w8 w (by omega))), cS_k (w8 297 (by omega)) s3, f8 B3, fun _ _ => r8⟩
    | inr s =>
      rw [hE] at s3
      rw [if_neg (show ¬ σ3 297 2 = 0 by rw [(cS_2 s3).2 s rfl]; decide)]
      exact ⟨σ3, rfl, XC_7 XA, s3, B3, fun b hb => by cases hb⟩
  by_cases h3 : k = 3
  · rw [if_pos h3]
    obtain ⟨r2, σ2, e2, X2, s2, v2⟩ := rdn_c (lo := 1) (hi := 8) T1 (fun _ _ => by decide) s1
    rw [bd_eq e2]
    exact fin r2 σ2 _ X2 s2 (by unfold dr2; rw [if_pos h3]; rfl) v2
  · rw [if_neg h3]
    obtain ⟨r2, σ2, e2, X2, s2, v2⟩ := rdn_c (lo := 0) (hi := S 1 - 1) T1 (fun _ _ => by decide) s1
    rw [bd_eq e2]
    exact fin r2 σ2 _ X2 s2 (by unfold dr2; rw [if_neg h3]; rfl) v2
def drM (q : Nat) (p1 : Int32) (σ2 : Mem) : Option (Unit × Mem) :=
  bd (f_M_take_II q (0 : Int32) ((σ2 (q + 1) 1) - (1 : Int32)) σ2) fun r3 σ4 =>
  if p1 = (3 : Int32) then
    bd (f_M_take_II q (1 : Int32) (8 : Int32) σ4) fun r5 σ6 =>
    if (σ6 q 15) = 0 then
      bd (f_M_addGiven q p1 r3 r5 (0 : Int32) (0 : Int32) σ6) fun r7 σ8 =>
      some ((), σ8)
    else
      some ((), σ6)
  else
    bd (f_M_take_II q (0 : Int32) ((σ4 (q + 1) 1) - (1 : Int32)) σ4) fun r9 σ10 =>
    if (σ10 q 15) = 0 then
      bd (f_M_addGiven q p1 r3 r9 (0 : Int32) (0 : Int32) σ10) fun r11 σ12 =>
      some ((), σ12)
    else
      some ((), σ10)
theorem readDerived_e {q : Nat} {p1 : Int32} {σ : Mem} : f_M_readDerived q p1 σ = if (8 : Int32) ≤ (σ (q + 1) 1) then bd (f_M_take_Z q (0 : Int32) σ) fun _ σ2 => drM q p1 σ2 else bd (f_M_take_Z q (1 : Int32) σ) fun _ σ2 => drM q p1 σ2 := rfl
theorem der_m {τ : Mem} {c : Nat → Int32} {L : Nat} {S : Nat → Int32} {k : Int32} {st : Nat ⊕ Nat} (h : TM τ c L) (hs : rH τ c L st) (hW : WF S) (hn : ∀ b, st = .inl b → nS S < 8) (h300 : τ 300 = S) : ∃ τ', drM 299 k τ = some ((), τ') ∧ XM τ τ' ∧ gkM τ' c L (rowA S (drg c L S k st)) (dr2 c L S k st) := by
  obtain ⟨r1, σ1, e1, X1, s1, v1⟩ := take_m (lo := 0) (hi := S 1 - 1) h (fun _ _ => by decide) hs
  have T1 := X9_T X1 h
  have q1 : σ1 300 = S := (X1.1 300 (by decide)).trans h300
  unfold drM
  simp only [Nat.reduceAdd]
  rw [h300, bd_eq e1, q1]
  have fin : ∀ (r2 : Int32) (σ2 : Mem) (st2 : Nat ⊕ Nat), X9 σ1 σ2 → rH σ2 c L st2 → st2 = dr2 c L S k st → (∀ b, st2 = .inl b → r2 = vlP c L (dr1 c L S st)) → ∃ σ', (if (σ2 299 15) = 0 then bd (f_M_addGiven 299 k r1 r2 (0 : Int32) (0 : Int32) σ2) fun r7 σ8 => some ((), σ8) else some ((), σ2)) = some ((), σ') ∧ XM τ σ' ∧ gkM σ' c L (rowA S (drg c L S k st)) (dr2 c L S k st) := fun r2 σ2 st2 X2 s2 h2 v2 => by
    have XA : X9 τ σ2 := X9_t X1 X2
    have t0 : σ2 300 = S := (XA.1 300 (by decide)).trans h300
    rw [← h2]
    cases hE : st2 with
    | inl b =>
      rw [hE] at s2
      obtain ⟨⟨b0, g0⟩, ⟨b1, g1⟩, w1, w2⟩ := dr_ok hW.1 (h2.symm.trans hE)
      rw [if_pos ((rH_15 s2).1 b rfl), v1 b1 g1, v2 b hE]
      have hp := given_M (τ := σ2) (a := k) (b := vlP c L st) (c := vlP c L (dr1 c L S st)) (d := 0) (e := 0) (by rw [t0]; exact hW.1.2.2.1.1) (by rw [t0]; exact hn b0 g0)
      rw [t0] at hp
      exact ⟨_, bd_eq hp _, XM_t (XM_9 XA) XM_r, rH_k (wrow_m (by decide)) s2, fun _ _ => wrow_h⟩
    | inr s =>
      rw [hE] at s2
      rw [if_neg (show ¬ σ2 299 15 = 0 by rw [(rH_15 s2).2 s rfl]; decide)]
      exact ⟨σ2, rfl, XM_9 XA, s2, fun b hb => by cases hb⟩
  by_cases h3 : k = 3
  · rw [if_pos h3]
    obtain ⟨r2, σ2, e2, X2, s2, v2⟩ := take_m (lo := 1) (hi := 8) T1 (fun _ _ => by decide) s1
    rw [bd_eq e2]
    exact fin r2 σ2 _ X2 s2 (by unfold dr2; rw [if_pos h3]; rfl) v2
  · rw [if_neg h3]
    obtain ⟨r2, σ2, e2, X2, s2, v2⟩ := take_m (lo := 0) (hi := S 1 - 1) T1 (fun _ _ => by decide) s1
    rw [bd_eq e2]
    exact fin r2 σ2 _ X2 s2 (by unfold dr2; rw [if_neg h3]; rfl) v2
