/-! a wake of the reference, and its row -/
def dlvN (S : Nat → Int32) : Nat → Nat → Int32
  | 0 => S
  | e + 1 => dlvS (dlvN S e) (S (391 + 3 * e)).toInt.toNat (S (391 + 3 * e + 1)) (S (391 + 3 * e + 2))
def wakeS (S : Nat → Int32) (c : Nat) : Nat → Int32 := if S 3 = 0 then S else
  let T := dlvN S (S 3).toInt.toNat
  upS (upS (upS T 3 0) 5 (T 5 + 20)) (7 + c) (T (7 + c) + 1)
theorem dlvS_m {S : Nat → Int32} {c j : Nat} {st v : Int32} (h : j < 163 + 27 * c + 5 ∨ 163 + 27 * c + 26 < j ∨ j = 163 + 27 * c + 8) : dlvS S c st v j = S j := by
  unfold dlvS
  simp (disch := omega) only [upS_m, shS_m]
theorem dlvN_m {S : Nat → Int32} {j : Nat} (hj : j < 168 ∨ 379 ≤ j) : ∀ N, (∀ e, e < N → gI S (391 + 3 * e) < 8) → dlvN S N j = S j := by
  intro N
  induction N with
  | zero => intro _; rfl
  | succ N ih =>
    intro h
    have hc := h N (by omega)
    unfold gI at hc
    show dlvS (dlvN S N) (S (391 + 3 * N)).toInt.toNat _ _ j = _
    rw [dlvS_m (by omega), ih (fun e he => h e (by omega))]
theorem wake_lp {τ : Mem} {S : Nat → Int32} {y1 : Int32} {k : Mem → Option (Int32 × Mem)} {N : Nat} (hN : N ≤ 30) (h : ∀ e, e < N → 0 ≤ gI S (391 + 3 * e) ∧ gI S (391 + 3 * e) < 8) : ∀ (j i n : Nat), i + j = N → j < n → L_M_wake_15 299 y1 (nI N) k n (nI i) (wrow τ 300 (dlvN S i)) = k (wrow τ 300 (dlvN S N)) := by
  intro j
  induction j with
  | zero =>
    intro i n hi hn
    have hi : i = N := hi
    subst hi
    obtain ⟨n, rfl⟩ : ∃ z, n = z + 1 := ⟨n - 1, by omega⟩
    unfold L_M_wake_15
    rw [if_pos (nI_le (Nat.le_refl _) (by omega))]
  | succ j ih =>
    intro i n hi hn
    obtain ⟨n, rfl⟩ : ∃ z, n = z + 1 := ⟨n - 1, by omega⟩
    unfold L_M_wake_15
    have hc := h i (by omega)
    have hm : ∀ j : Nat, 379 ≤ j → dlvN S i j = S j := fun j hj => dlvN_m (Or.inr hj) i (fun e he => (h e (by omega)).2)
    rw [if_neg (nI_ge (by omega) (by omega)), bd_eq (dlv_M (τ := wrow τ 300 (dlvN S i)) (e := i) (c := (S (391 + 3 * i)).toInt.toNat) (st := S (391 + 3 * i + 1)) (v := S (391 + 3 * i + 2)) (by omega) (by unfold gI at hc; omega) (by rw [wrow_h, hm _ (by omega)]; exact toNI hc.1) (by rw [wrow_h, hm _ (by omega)]) (by rw [wrow_h, hm _ (by omega)])), wrow_h, wrow_2, ← nI_succ]
    exact ih (i + 1) n (by omega) (by omega)
theorem wake_M {τ : Mem} {c : Nat} (hc : c < 4) (h3 : 0 ≤ gI (τ 300) 3 ∧ gI (τ 300) 3 ≤ 30) (h : ∀ e : Nat, (e : Int) < gI (τ 300) 3 → 0 ≤ gI (τ 300) (391 + 3 * e) ∧ gI (τ 300) (391 + 3 * e) < 8) : f_M_wake 299 (nI c) τ = some (τ 300 3, wrow τ 300 (wakeS (τ 300) c)) := by
  unfold f_M_wake wakeS
  by_cases h0 : τ 300 3 = 0
  · simp only [lt_eq, Nat.reduceAdd, h0, if_true, wrow_id]
  · have e3 : τ 300 3 = nI (τ 300 3).toInt.toNat := toNI h3.1
    have hlp := wake_lp (τ := τ) (S := τ 300) (N := (τ 300 3).toInt.toNat) (y1 := nI c) (k := fun σ4 => lt (wr σ4 300 3 (0 : Int32)) fun σ5 =>
      lt (wr σ5 300 5 ((σ5 300 5) + (20 : Int32))) fun σ6 =>
      if ib ((7 : Int32) + nI c) 481 then
        if ib ((7 : Int32) + nI c) 481 then
          lt (wr σ6 300 ((7 : Int32) + nI c).toNatClampNeg ((σ6 300 ((7 : Int32) + nI c).toNatClampNeg) + (1 : Int32))) fun σ7 =>
          some (nI (τ 300 3).toInt.toNat, σ7)
        else none
      else none) (by unfold gI at h3; omega) (fun e he => h e (by unfold gI; omega)) (τ 300 3).toInt.toNat 0 FU (by omega) (by unfold gI at h3; show _ < 4096; omega)
    rw [show dlvN (τ 300) 0 = τ 300 from rfl, wrow_id] at hlp
    simp only [lt_eq, Nat.reduceAdd, h0, if_false]
    simp only [lt_eq] at hlp
    rw [← e3] at hlp
    refine hlp.trans ?_
    simp (disch := omega) only [nI_La, ib_T, nI_clamp, if_true, wr_row, wrow_h, wrow_2, upS_m]
