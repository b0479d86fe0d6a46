/-! an entry is delivered -/
def ageS (S : Nat → Int32) (st : Int32) : Int32 := if S 0 ≤ st then 0 else S 0 - st
def shS (S : Nat → Int32) (a x : Nat) : Nat → Int32 := fun j => if a + x < j ∧ j ≤ a + 26 then S (j - 3) else S j
def dlvS (S : Nat → Int32) (c : Nat) (st v : Int32) : Nat → Int32 :=
  upS (upS (upS (shS (upS (upS (upS S (163 + 27 * c + 5) (S (163 + 27 * c + 5) + 1)) (163 + 27 * c + 6) (S (163 + 27 * c + 6) + (if v = -8 then 1 else 0))) (163 + 27 * c + 7) (if S (163 + 27 * c + 7) ≤ ageS S st then ageS S st else S (163 + 27 * c + 7))) (163 + 27 * c) 11) (163 + 27 * c + 9) st) (163 + 27 * c + 10) v) (163 + 27 * c + 11) (S 0)
theorem shS_h {S : Nat → Int32} {a x j : Nat} (h : a + x < j ∧ j ≤ a + 26) : shS S a x j = S (j - 3) := if_pos h
theorem shS_m {S : Nat → Int32} {a x j : Nat} (h : ¬ (a + x < j ∧ j ≤ a + 26)) : shS S a x j = S j := if_neg h
theorem shS_step {S : Nat → Int32} {a x : Nat} (h1 : 12 ≤ x) (h2 : x ≤ 26) : upS (shS S a x) (a + x) (shS S a x (a + x - 3)) = shS S a (x - 1) := by
  funext j
  unfold upS shS
  by_cases e : j = a + x
  · subst e
    rw [if_pos rfl, if_neg (by omega), if_pos (by omega)]
  · rw [if_neg e]
    by_cases e2 : a + x < j ∧ j ≤ a + 26
    · rw [if_pos e2, if_pos (by omega)]
    · rw [if_neg e2, if_neg (by omega)]
theorem sh_loop {y3 y4 : Int32} {k : Mem → Option (Unit × Mem)} {a : Nat} {τ : Mem} {S : Nat → Int32} (ha : a + 26 < 481) : ∀ (m n : Nat), m ≤ 15 → m < n → L_M_deliver_130 299 (nI a) y3 y4 k n (nI (11 + m)) (wrow τ 300 (shS S a (11 + m))) = k (wrow τ 300 (shS S a 11)) := by
  intro m
  induction m with
  | zero =>
    intro n _ hn
    obtain ⟨n, rfl⟩ : ∃ z, n = z + 1 := ⟨n - 1, by omega⟩
    unfold L_M_deliver_130
    rw [if_pos (by decide)]
  | succ m ih =>
    intro n hm hn
    obtain ⟨n, rfl⟩ : ∃ z, n = z + 1 := ⟨n - 1, by omega⟩
    unfold L_M_deliver_130
    simp (disch := omega) only [ltR_F, nI_add, nI_sL, ib_T, nI_clamp, lt_eq, nI_m1, if_true, if_false, wr_row, wrow_h, wrow_2, shS_step]
    have e : 11 + (m + 1) - 1 = 11 + m := by omega
    rw [e]
    exact ih n (by omega) (by omega)
theorem dlv_M {e c : Nat} {τ : Mem} {st v : Int32} (he : e < 30) (hc : c < 8) (h : τ 300 (391 + 3 * e) = nI c) (hst : τ 300 (391 + 3 * e + 1) = st) (hv : τ 300 (391 + 3 * e + 2) = v) : f_M_deliver 299 (nI e) τ = some ((), wrow τ 300 (dlvS (τ 300) c st v)) := by
  subst hst hv
  have e0 : f_M_entryPart 299 (nI e) 0 τ = some (nI c, τ) := by
    rw [entryPart_s e 0 (nI_toInt (by omega)) rfl he (by decide), ← h]
    rfl
  have e1 : f_M_entryPart 299 (nI e) 1 τ = some (τ 300 (391 + 3 * e + 1), τ) := entryPart_s e 1 (nI_toInt (by omega)) rfl he (by decide)
  have e2 : f_M_entryPart 299 (nI e) 2 τ = some (τ 300 (391 + 3 * e + 2), τ) := entryPart_s e 2 (nI_toInt (by omega)) rfl he (by decide)
  have z : ∀ (w : Nat → Int32) (x : Nat), shS w x 26 = w := fun w x => by
    funext j
    unfold shS
    rw [if_neg (by omega)]
  have lp : ∀ (y3 y4 : Int32) (k : Mem → Option (Unit × Mem)) (S : Nat → Int32), L_M_deliver_130 299 (nI (163 + 27 * c)) y3 y4 k FU 26 (wrow τ 300 S) = k (wrow τ 300 (shS S (163 + 27 * c) 11)) := fun y3 y4 k S => by
    have := sh_loop (y3 := y3) (y4 := y4) (k := k) (τ := τ) (S := S) (a := 163 + 27 * c) (by omega) 15 FU (by omega) (by decide)
    rw [z] at this
    exact this
  generalize τ 300 (391 + 3 * e + 1) = st at *
  generalize τ 300 (391 + 3 * e + 2) = v at *
  have b0 : ∀ k : Int32 → Mem → Option (Unit × Mem), bd (f_M_entryPart 299 (nI e) 0 τ) k = k (nI c) τ := bd_eq e0
  have b1 : ∀ k : Int32 → Mem → Option (Unit × Mem), bd (f_M_entryPart 299 (nI e) 1 τ) k = k st τ := bd_eq e1
  have b2 : ∀ k : Int32 → Mem → Option (Unit × Mem), bd (f_M_entryPart 299 (nI e) 2 τ) k = k v τ := bd_eq e2
  unfold f_M_deliver
  simp (disch := omega) only [↓b0, ↓b1, ↓b2, ↓lt_eq, nI_Lm, nI_La, nI_aL, ib_T, nI_clamp, ↓reduceIte, wr_row, wrow_h, wrow_2, lp, Nat.reduceAdd, Nat.add_assoc]
  unfold dlvS ageS
  by_cases h1 : τ 300 0 ≤ st <;> by_cases h2 : v = -8 <;> simp (disch := omega) only [h1, h2, if_true, if_false, upS_h, upS_m, shS_h, shS_m, Nat.add_assoc, Nat.reduceAdd]
  all_goals split <;> rfl
