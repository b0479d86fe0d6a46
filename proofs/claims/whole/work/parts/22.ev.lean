/-! small rows for working the functions out -/
theorem bd_some {α β : Type} {a : α} {σ : Mem} {k : α → Mem → Option β} : bd (some (a, σ)) k = k a σ := rfl
theorem lt_eq {α β : Type} {x : α} {f : α → β} : lt x f = f x := rfl
theorem oe_none {β : Type} {a : β} {b : Nat → β} : oe none a b = a := rfl
theorem oe_some {β : Type} {a : β} {b : Nat → β} {v : Nat} : oe (some v) a b = b v := rfl
theorem nI_aL (a b : Nat) : nI a + (no_index (OfNat.ofNat b : Int32)) = nI (a + OfNat.ofNat b) := nI_add a b
theorem nI_La (a b : Nat) : (no_index (OfNat.ofNat b : Int32)) + nI a = nI (OfNat.ofNat b + a) := nI_add b a
theorem nI_mL (a b : Nat) : nI a * (no_index (OfNat.ofNat b : Int32)) = nI (a * OfNat.ofNat b) := pk_mul a b
theorem nI_Lm (a b : Nat) : (no_index (OfNat.ofNat b : Int32)) * nI a = nI (OfNat.ofNat b * a) := pk_mul b a
theorem nI_sL {a b : Nat} (h : OfNat.ofNat b ≤ a) : nI a - (no_index (OfNat.ofNat b : Int32)) = nI (a - OfNat.ofNat b) := pk_sub h
theorem nI_m1 {a : Nat} (h : 1 ≤ a) : nI a + (-1) = nI (a - 1) := sb_m1 h
theorem ib_T {a n : Nat} (h : a < n) (hn : n < 2 ^ 31) : ib (nI a) n = True := eq_true (ib_nI h hn)
theorem le_T {a b : Nat} (h : a ≤ b) (hb : b < 2 ^ 31) : (nI a ≤ nI b) = True := eq_true (nI_le h hb)
theorem le_F {a b : Nat} (h : b < a) (hb : a < 2 ^ 31) : (nI a ≤ nI b) = False := eq_false (nI_ge h hb)
theorem lt_T {a b : Nat} (h : a < b) (hb : b < 2 ^ 31) : (nI a < nI b) = True := eq_true (nI_lt h hb)
theorem lt_F {a b : Nat} (h : b ≤ a) (hb : a < 2 ^ 31) : (nI a < nI b) = False := eq_false (nI_nlt h hb)
theorem leL_T {a b : Nat} (h : OfNat.ofNat a ≤ b) (hb : b < 2 ^ 31) : ((no_index (OfNat.ofNat a : Int32)) ≤ nI b) = True := eq_true (nI_le (a := OfNat.ofNat a) h hb)
theorem leL_F {a b : Nat} (h : b < OfNat.ofNat a) (hb : OfNat.ofNat a < 2 ^ 31) : ((no_index (OfNat.ofNat a : Int32)) ≤ nI b) = False := eq_false (nI_ge h hb)
theorem ltL_T {a b : Nat} (h : OfNat.ofNat a < b) (hb : b < 2 ^ 31) : ((no_index (OfNat.ofNat a : Int32)) < nI b) = True := eq_true (nI_lt (a := OfNat.ofNat a) h hb)
theorem ltL_F {a b : Nat} (h : b ≤ OfNat.ofNat a) (hb : OfNat.ofNat a < 2 ^ 31) : ((no_index (OfNat.ofNat a : Int32)) < nI b) = False := eq_false (nI_nlt h hb)
theorem leR_T {a b : Nat} (h : a ≤ OfNat.ofNat b) (hb : OfNat.ofNat b < 2 ^ 31) : (nI a ≤ (no_index (OfNat.ofNat b : Int32))) = True := eq_true (nI_le h hb)
theorem leR_F {a b : Nat} (h : OfNat.ofNat b < a) (hb : a < 2 ^ 31) : (nI a ≤ (no_index (OfNat.ofNat b : Int32))) = False := eq_false (nI_ge (a := OfNat.ofNat b) h hb)
theorem ltR_T {a b : Nat} (h : a < OfNat.ofNat b) (hb : OfNat.ofNat b < 2 ^ 31) : (nI a < (no_index (OfNat.ofNat b : Int32))) = True := eq_true (nI_lt h hb)
theorem ltR_F {a b : Nat} (h : OfNat.ofNat b ≤ a) (hb : a < 2 ^ 31) : (nI a < (no_index (OfNat.ofNat b : Int32))) = False := eq_false (nI_nlt (b := OfNat.ofNat b) h hb)
theorem eqL_T {a b : Nat} (h : a = OfNat.ofNat b) : (nI a = (no_index (OfNat.ofNat b : Int32))) = True := eq_true (congrArg nI h)
theorem eqL_F {a b : Nat} (h : a ≠ OfNat.ofNat b) (ha : a < 2 ^ 31) (hb : OfNat.ofNat b < 2 ^ 31) : (nI a = (no_index (OfNat.ofNat b : Int32))) = False := eq_false (fun e => h ((nI_eq ha hb).mp e))
/-- a whole row of the memory -/
def wrow (σ : Mem) (v : Nat) (f : Nat → Int32) : Mem := fun b => if b = v then f else σ b
theorem wr_row {σ : Mem} {v k : Nat} {x : Int32} : wr σ v k x = wrow σ v (upS (σ v) k x) := by
  funext b j
  unfold wr wrow upS
  by_cases e : b = v
  · subst e
    by_cases e2 : j = k <;> simp [e2]
  · simp [e]
theorem wrow_h {σ : Mem} {v : Nat} {f : Nat → Int32} : wrow σ v f v = f := if_pos rfl
theorem wrow_m {σ : Mem} {v b : Nat} {f : Nat → Int32} (h : b ≠ v) : wrow σ v f b = σ b := if_neg h
theorem wrow_2 {σ : Mem} {v : Nat} {f g : Nat → Int32} : wrow (wrow σ v f) v g = wrow σ v g := by
  funext b
  unfold wrow
  by_cases e : b = v <;> simp [e]
theorem wrow_c {σ : Mem} {v w : Nat} {f g : Nat → Int32} (h : v ≠ w) : wrow (wrow σ v f) w g = wrow (wrow σ w g) v f := by
  funext b
  unfold wrow
  by_cases e : b = v
  · rw [if_pos e, if_neg (by omega), if_pos e]
  · rw [if_neg e, if_neg e]
theorem wrow_id {σ : Mem} {v : Nat} : wrow σ v (σ v) = σ := by
  funext b
  unfold wrow
  by_cases e : b = v
  · rw [if_pos e, e]
  · rw [if_neg e]
theorem upS_h {f : Nat → Int32} {k j : Nat} {x : Int32} (h : j = k) : upS f k x j = x := if_pos h
theorem upS_m {f : Nat → Int32} {k j : Nat} {x : Int32} (h : j ≠ k) : upS f k x j = f j := if_neg h
theorem wr_h {σ : Mem} {v k : Nat} {x : Int32} {b j : Nat} (h1 : b = v) (h2 : j = k) : wr σ v k x b j = x := if_pos ⟨h1, h2⟩
theorem wr_m {σ : Mem} {v k : Nat} {x : Int32} {b j : Nat} (h : b ≠ v ∨ j ≠ k) : wr σ v k x b j = σ b j := if_neg (fun e => h.elim (fun z => z e.1) (fun z => z e.2))
theorem bd_eq {α β : Type} {a : α} {σ : Mem} {o : Option (α × Mem)} (h : o = some (a, σ)) (k : α → Mem → Option β) : bd o k = k a σ := by rw [h]; rfl
