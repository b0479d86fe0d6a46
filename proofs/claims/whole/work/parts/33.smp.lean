/-! a sample of a sensor: the reference's words for it -/
def rcvS (S : Nat → Int32) (i : Nat) (st v : Int32) : Nat → Int32 :=
  if v = -8 then upS (upS (upS S (18 + 19 * i) (S (18 + 19 * i) + 1)) (19 + 19 * i) st) (20 + 19 * i) v
  else upS (upS (upS (upS (upS S (18 + 19 * i) (S (18 + 19 * i) + 1)) (19 + 19 * i) st) (20 + 19 * i) v) (22 + 19 * i + (S (21 + 19 * i)).toInt.toNat % 8) v) (21 + 19 * i) (S (21 + 19 * i) + 1)
def outF (S : Nat → Int32) (i : Nat) (t : Int32) : Nat → Int32
  | 0 => 0
  | o + 1 => if outF S i t o = 0 then (if S (379 + 3 * o) = nI i ∧ S (380 + 3 * o) ≤ t ∧ t ≤ S (381 + 3 * o) then 1 else 0) else 1
def sumS (S : Nat → Int32) (i g : Nat) : Nat → Int32
  | 0 => 0
  | m + 1 => sumS S i g m + S (22 + 19 * i + (g - (m + 1)) % 8)
def meanS (S : Nat → Int32) (i l : Nat) : Int32 :=
  let g := (S (21 + 19 * i)).toInt.toNat
  let m := if l ≤ g then l else g
  sumS S i g m / nI m
def timeS (S P : Nat → Int32) (i : Nat) : Int32 := S 6 + (S (18 + 19 * i) + 1) * P i
def lateS (S : Nat → Int32) (i : Nat) : Int32 := (7 * S (18 + 19 * i) + nI i) - (7 * S (18 + 19 * i) + nI i) / (S (16 + 19 * i) + 1) * (S (16 + 19 * i) + 1)
def qtrS (x : Int32) : Int32 := if x < 0 then -((3 - x) / 4) else x / 4
def stampS (S P : Nat → Int32) (i : Nat) : Int32 := if S (18 + 19 * i) = 0 then S 0 else S (19 + 19 * i) + P i + qtrS (S 0 - (S (19 + 19 * i) + P i))
def valS (S : Nat → Int32) (i : Nat) (t : Int32) : Int32 := (S (14 + 19 * i) * t + S (15 + 19 * i)) - (S (14 + 19 * i) * t + S (15 + 19 * i)) / 1000 * 1000
def physS (S P : Nat → Int32) (i : Nat) : Option (Int32 × Int32) :=
  if timeS S P i + lateS S i = S 0 then some (stampS S P i, if outF S i (timeS S P i) (S 2).toInt.toNat = 0 then valS S i (timeS S P i) else -8) else none
def dvalS (S : Nat → Int32) (i : Nat) : Int32 :=
  let f := (S (12 + 19 * i)).toInt.toNat
  let x := S (20 + 19 * f)
  if x = -8 then -8
  else if S (11 + 19 * i) = 3 then meanS S f (S (13 + 19 * i)).toInt.toNat
  else
    let g := (S (13 + 19 * i)).toInt.toNat
    if S (18 + 19 * g) ≤ 0 then -8
    else
      let y := S (20 + 19 * g)
      if y = -8 then -8
      else if S (11 + 19 * i) = 0 then (x + y) - (x + y) / 1000 * 1000
      else if S (11 + 19 * i) = 1 then (x - y + 1000) - (x - y + 1000) / 1000 * 1000
      else if x ≤ y then y else x
def derS (S F : Nat → Int32) (i : Nat) : Option (Int32 × Int32) :=
  let f := (S (12 + 19 * i)).toInt.toNat
  if F f = 0 then none else some (S (19 + 19 * f), dvalS S i)
def senStep (P : Nat → Int32) (w : (Nat → Int32) × (Nat → Int32)) (i : Nat) : (Nat → Int32) × (Nat → Int32) :=
  if P i = -9 then (w.1, upS w.2 i 0)
  else if w.1 (11 + 19 * i) = 4 then
    match physS w.1 P i with
    | none => (w.1, upS w.2 i 0)
    | some x => (upS (rcvS w.1 i x.1 x.2) 5 (w.1 5 + w.1 (17 + 19 * i)), upS w.2 i 1)
  else
    match derS w.1 w.2 i with
    | none => (w.1, upS w.2 i 0)
    | some x => (rcvS w.1 i x.1 x.2, upS w.2 i 1)
def senN (P : Nat → Int32) (w : (Nat → Int32) × (Nat → Int32)) : Nat → (Nat → Int32) × (Nat → Int32)
  | 0 => w
  | i + 1 => senStep P (senN P w i) i
theorem receive_M {τ : Mem} {i : Nat} {st v : Int32} (hi : i < 8) (hg : 0 ≤ gI (τ 300) (21 + 19 * i)) : f_M_receive 299 (nI i) st v τ = some ((), wrow (wrow τ 307 (upS (τ 307) i 1)) 300 (rcvS (τ 300) i st v)) := by
  have eg : τ 300 (21 + 19 * i) = nI (τ 300 (21 + 19 * i)).toInt.toNat := toNI hg
  have h31 : (τ 300 (21 + 19 * i)).toInt.toNat < 2 ^ 31 := by have := tB (τ 300 (21 + 19 * i)); omega
  have e1 : (1 : Int32) &&& 1 = 1 := by decide
  have q0 : 11 + 19 * i + 7 = 18 + 19 * i := by omega
  have q1 : 11 + 19 * i + 8 = 19 + 19 * i := by omega
  have q2 : 11 + 19 * i + 9 = 20 + 19 * i := by omega
  have q3 : 11 + 19 * i + 10 = 21 + 19 * i := by omega
  have q4 : 11 + 19 * i + 11 = 22 + 19 * i := by omega
  unfold f_M_receive rcvS
  have hr : τ 300 (21 + 19 * i) - τ 300 (21 + 19 * i) / 8 * 8 = nI ((τ 300 (21 + 19 * i)).toInt.toNat % 8) := by
    have := pk_rem (a := (τ 300 (21 + 19 * i)).toInt.toNat) (d := 8) h31 (by decide) (by decide)
    rw [← eg] at this
    exact this
  have hm : (τ 300 (21 + 19 * i)).toInt.toNat % 8 < 8 := Nat.mod_lt _ (by decide)
  by_cases h8 : v = -8
  · simp (disch := omega) only [↓lt_eq, nI_Lm, nI_La, nI_aL, q0, q1, q2, ib_T, nI_clamp, ↓reduceIte, wr_row, wrow_h, wrow_2, h8, if_true, Nat.reduceAdd, e1, wrow_m]
    rw [wrow_c (v := 300) (w := 307) (by decide)]
  · simp (disch := omega) only [↓lt_eq, nI_Lm, nI_La, nI_aL, q0, q1, q2, q3, q4, ib_T, nI_clamp, ↓reduceIte, wr_row, wrow_h, wrow_2, h8, if_false, Nat.reduceAdd, e1, wrow_m, upS_m, hr, nI_add, wrow_c (v := 300) (w := 307)]
theorem isOut_M {τ : Mem} {i : Nat} {t : Int32} (h2 : 0 ≤ gI (τ 300) 2 ∧ gI (τ 300) 2 ≤ 4) : f_M_isOut 299 (nI i) t τ = some (outF (τ 300) i t (τ 300 2).toInt.toNat, τ) := by
  have en : τ 300 2 = nI (τ 300 2).toInt.toNat := toNI h2.1
  have hl : (τ 300 2).toInt.toNat ≤ 4 := by unfold gI at h2; omega
  have o01 : ∀ o, outF (τ 300) i t o = 0 ∨ outF (τ 300) i t o = 1 := by
    intro o
    induction o with
    | zero => exact Or.inl rfl
    | succ o ih =>
      show (if outF (τ 300) i t o = 0 then (if τ 300 (379 + 3 * o) = nI i ∧ τ 300 (380 + 3 * o) ≤ t ∧ t ≤ τ 300 (381 + 3 * o) then 1 else 0) else (1 : Int32)) = 0 ∨ (if outF (τ 300) i t o = 0 then (if τ 300 (379 + 3 * o) = nI i ∧ τ 300 (380 + 3 * o) ≤ t ∧ t ≤ τ 300 (381 + 3 * o) then 1 else 0) else (1 : Int32)) = 1
      split
      · split
        · exact Or.inr rfl
        · exact Or.inl rfl
      · exact Or.inr rfl
  unfold f_M_isOut
  obtain ⟨a, σ', e, ha, hs⟩ := loopA (L_M_isOut_5 299 (nI i) t (fun z5 σ6 => if z5 &&& 1 = z5 then some (z5, σ6) else none)) (fun z5 σ6 => if z5 &&& 1 = z5 then some (z5, σ6) else none) (τ 300 2).toInt.toNat (fun o a σ => a = outF (τ 300) i t o ∧ σ = τ)
    (fun n a σ hI => by
      obtain ⟨_, rfl⟩ := hI
      show (if σ 300 2 ≤ nI (σ 300 2).toInt.toNat then _ else _) = _
      rw [← en, if_pos (by rw [Int32.le_iff_toInt_le]; omega)])
    (fun n o a σ ho hI => by
      obtain ⟨rfl, rfl⟩ := hI
      refine ⟨_, σ, ?_, rfl, rfl⟩
      generalize hL : L_M_isOut_5 299 (nI i) t (fun z5 σ6 => if z5 &&& 1 = z5 then some (z5, σ6) else none) n = Lr
      unfold L_M_isOut_5
      rw [hL]
      simp only [Nat.reduceAdd]
      rw [if_neg (by rw [en]; exact nI_ge ho (by omega))]
      show _ = Lr (if outF (σ 300) i t o = 0 then (if σ 300 (379 + 3 * o) = nI i ∧ σ 300 (380 + 3 * o) ≤ t ∧ t ≤ σ 300 (381 + 3 * o) then 1 else 0) else 1) (nI (o + 1)) σ
      rw [nI_succ]
      by_cases h0 : outF (σ 300) i t o = 0
      · rw [if_pos h0, if_pos h0]
        simp (disch := omega) only [nI_Lm, nI_La, nI_aL, ib_T, nI_clamp, ↓reduceIte, lt_eq, show 379 + 3 * o + 1 = 380 + 3 * o by omega, show 379 + 3 * o + 2 = 381 + 3 * o by omega, isIn, bd_some]
        by_cases h1 : σ 300 (379 + 3 * o) = nI i
        · rw [if_pos h1]
          by_cases h3 : σ 300 (380 + 3 * o) ≤ t ∧ t ≤ σ 300 (381 + 3 * o)
          · rw [if_pos h3, if_neg (show ¬ (1 : Int32) = 0 by decide), if_pos ⟨h1, h3⟩]
          · rw [if_neg h3, if_pos rfl, if_neg (fun z => h3 z.2)]
        · rw [if_neg h1, if_neg (fun z => h1 z.1)]
      · rw [if_neg h0, if_neg h0]) (τ 300 2).toInt.toNat 0 FU 0 τ (by omega) (by show _ < 4096; omega) ⟨rfl, rfl⟩
  refine Eq.trans e ?_
  rw [ha, hs]
  rcases o01 (τ 300 2).toInt.toNat with h | h <;> rw [h] <;> rfl
theorem mean_M {τ : Mem} {i l : Nat} (hi : i < 8) (hl : 1 ≤ l ∧ l ≤ 8) (hg : 1 ≤ gI (τ 300) (21 + 19 * i)) : f_M_mean 299 (nI i) (nI l) τ = some (meanS (τ 300) i l, τ) := by
  have eg : τ 300 (21 + 19 * i) = nI (τ 300 (21 + 19 * i)).toInt.toNat := toNI (by unfold gI at hg; omega)
  have hgn : 1 ≤ (τ 300 (21 + 19 * i)).toInt.toNat := by unfold gI at hg; omega
  have h31 : (τ 300 (21 + 19 * i)).toInt.toNat < 2 ^ 31 := by have := tB (τ 300 (21 + 19 * i)); omega
  unfold f_M_mean meanS
  rw [bsen (p := 21 + 19 * i) 10 10 (by decide) hi (by decide) (by omega), eg]
  generalize (τ 300 (21 + 19 * i)).toInt.toNat = g at *
  rw [nI_toInt h31]
  have lp : ∀ (m : Nat), 1 ≤ m → m ≤ 8 → m ≤ g → L_M_mean_26 299 (nI i) (nI g) (nI m) (fun z7 σ8 => if nI m = 0 then none else some (z7 / nI m, σ8)) FU 0 1 τ = some (sumS (τ 300) i g m / nI m, τ) := by
    intro m hm1 hm8 hmg
    obtain ⟨a, σ', e, ha, hs⟩ := loopA (fun n a x σ => L_M_mean_26 299 (nI i) (nI g) (nI m) (fun z7 σ8 => if nI m = 0 then none else some (z7 / nI m, σ8)) n a (x + 1) σ) (fun z7 σ8 => if nI m = 0 then none else some (z7 / nI m, σ8)) m (fun o a σ => a = sumS (τ 300) i g o ∧ σ = τ)
      (fun n a σ hI => by
        show (if nI m < nI m + 1 then _ else _) = _
        rw [← nI_succ, if_pos (nI_lt (by omega) (by omega))])
      (fun n o a σ ho hI => by
        obtain ⟨rfl, rfl⟩ := hI
        refine ⟨_, σ, ?_, rfl, rfl⟩
        show (if nI m < nI o + 1 then _ else _) = _
        have hr : nI g - nI (o + 1) - (nI g - nI (o + 1)) / 8 * 8 = nI ((g - (o + 1)) % 8) := by
          rw [pk_sub (by omega)]
          exact pk_rem (d := 8) (by omega) (by decide) (by decide)
        have hm : (g - (o + 1)) % 8 < 8 := Nat.mod_lt _ (by decide)
        rw [← nI_succ, if_neg (nI_nlt (by omega) (by omega)), lt_eq, hr, nI_La, bsen (p := 22 + 19 * i + (g - (o + 1)) % 8) (11 + (g - (o + 1)) % 8) (nI (11 + (g - (o + 1)) % 8)) (nI_toInt (by omega)) hi (by omega) (by omega), lt_eq]
        rfl) m 0 FU 0 τ (by omega) (by show _ < 4096; omega) ⟨rfl, rfl⟩
    refine Eq.trans e ?_
    rw [ha, hs, if_neg (nI_ne0 (by omega) (by omega))]
  by_cases h : l ≤ g
  · rw [if_pos (nI_le h (by omega))]
    have h5 : ((g : Int).toNat) = g := rfl
    rw [h5]
    simp only [if_pos h]
    exact lp l hl.1 hl.2 h
  · rw [if_neg (nI_ge (by omega) (by omega))]
    have h5 : ((g : Int).toNat) = g := rfl
    rw [h5]
    simp only [if_neg h]
    exact lp g hgn (by omega) (by omega)
