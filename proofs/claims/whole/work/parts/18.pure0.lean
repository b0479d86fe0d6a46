/-! plain facts for the functions that the walks gave -/
theorem wr_id {σ : Mem} {v k : Nat} {x : Int32} (h : σ v k = x) : wr σ v k x = σ := by
  funext b j
  unfold wr
  by_cases e : b = v ∧ j = k
  · rw [if_pos e, e.1, e.2, h]
  · rw [if_neg e]
theorem lit_nI (n : Nat) : (OfNat.ofNat n : Int32) = nI n := rfl
theorem ib_nI {i n : Nat} (h : i < n) (hn : n < 2 ^ 31) : ib (nI i) n := by
  show 0 ≤ (nI i).toInt ∧ (nI i).toInt < (n : Int)
  rw [nI_toInt (by omega)]
  omega
/-- a loop that counts up: its end, and a step that goes on; in the end the invariant holds at the bound -/
theorem loopR {α : Type} (Lp : Nat → Int32 → Mem → Option α) (k : Mem → Option α) (N : Nat) (Inv : Nat → Mem → Prop)
    (hend : ∀ n σ, Inv N σ → Lp (n + 1) (nI N) σ = k σ) (hstep : ∀ n i σ, i < N → Inv i σ → ∃ σ', Lp (n + 1) (nI i) σ = Lp n (nI (i + 1)) σ' ∧ Inv (i + 1) σ') :
    ∀ (j i n : Nat) (σ : Mem), i + j = N → j < n → Inv i σ → ∃ σ', Lp n (nI i) σ = k σ' ∧ Inv N σ' := by
  intro j
  induction j with
  | zero =>
    intro i n σ hi hn hI
    have hi : i = N := hi
    subst hi
    obtain ⟨n, rfl⟩ : ∃ m, n = m + 1 := ⟨n - 1, by omega⟩
    exact ⟨σ, hend n σ hI, hI⟩
  | succ j ih =>
    intro i n σ hi hn hI
    obtain ⟨n, rfl⟩ : ∃ m, n = m + 1 := ⟨n - 1, by omega⟩
    obtain ⟨σ1, e1, h1⟩ := hstep n i σ (by omega) hI
    obtain ⟨σ2, e2, h2⟩ := ih (i + 1) n σ1 (by omega) (by omega) h1
    exact ⟨σ2, e1.trans e2, h2⟩
theorem isW {x a c : Int32} {σ : Mem} : f_X_isWithin x a c σ = some (if a ≤ x ∧ x ≤ c then 1 else 0, σ) := by
  unfold f_X_isWithin
  by_cases h1 : x < a
  · have h2 : ¬ a ≤ x := by rw [Int32.le_iff_toInt_le]; rw [Int32.lt_iff_toInt_lt] at h1; omega
    simp [h1, h2]
  · have h2 : a ≤ x := by rw [Int32.le_iff_toInt_le]; rw [Int32.lt_iff_toInt_lt] at h1; omega
    by_cases h3 : c < x
    · have h4 : ¬ x ≤ c := by rw [Int32.le_iff_toInt_le]; rw [Int32.lt_iff_toInt_lt] at h3; omega
      simp [h1, h2, h3, h4]
    · have h4 : x ≤ c := by rw [Int32.le_iff_toInt_le]; rw [Int32.lt_iff_toInt_lt] at h3; omega
      simp [h1, h2, h3, h4]
theorem clientRoom_nI {q i : Nat} {σ : Mem} (h : i < 8) : f_Hub_clientRoom q (nI i) σ = some (some (q + 3 + (23 + 2 * i)), σ) := by
  unfold f_Hub_clientRoom
  rw [isW]
  have h1 : (0 : Int32) ≤ nI i ∧ nI i ≤ (7 : Int32) := ⟨(nI_leI (a := 0) (b := i) (by omega) (by omega)).mpr (by omega), (nI_leI (a := i) (b := 7) (by omega) (by omega)).mpr (by omega)⟩
  rw [if_pos h1]
  simp only [bd]
  rw [if_neg (by decide), if_pos (ib_nI h (by omega)), nI_clamp (by omega)]
/-- the beginning of a hub, over cells that are all 0 -/
theorem clear_zero {q : Nat} {σ : Mem} (h : ∀ w, q ≤ w → σ w = fun _ => 0) : f_Hub_clear q σ = some ((), wr σ q 3 10) := by
  have h0 : ∀ w k, q ≤ w → σ w k = 0 := fun w k hw => by rw [h w hw]
  have hz : ∀ w k, q ≤ w → ¬ (w = q ∧ k = 3) → wr σ q 3 10 w k = 0 := fun w k hw hn => by unfold wr; rw [if_neg hn]; exact h0 w k hw
  unfold f_Hub_clear
  simp only [lt]
  rw [wr_id (σ := σ) (h0 q 0 (by omega)), wr_id (σ := σ) (h0 q 1 (by omega)), wr_id (σ := σ) (h0 q 2 (by omega)), wr_id (hz q 4 (by omega) (by omega)), wr_id (hz (q + 4) 0 (by omega) (by omega)), wr_id (hz (q + 8) 0 (by omega) (by omega))]
  obtain ⟨τ, e1, rfl⟩ := loopR (L_Hub_clear_44 q (fun σ9 => L_Hub_clear_64 q (fun σ14 => some ((), σ14)) FU 0 σ9)) _ 4 (fun _ τ => τ = wr σ q 3 10)
    (fun n τ hτ => by show (if (4 : Int32) ≤ nI 4 then _ else _) = _; rw [if_pos (by decide)])
    (fun n i τ hi hτ => ⟨τ, by
      show (if (4 : Int32) ≤ nI i then _ else _) = _
      rw [if_neg (show ¬ (4 : Int32) ≤ nI i from nI_ge hi (by decide)), if_pos (ib_nI hi (by omega)), nI_clamp (by omega)]
      simp only [lt]
      rw [wr_id (by rw [hτ]; exact hz _ _ (by omega) (by omega)), ← nI_succ], hτ⟩) 4 0 FU _ rfl (by decide) rfl
  refine e1.trans ?_
  obtain ⟨τ, e2, rfl⟩ := loopR (L_Hub_clear_64 q (fun σ14 => some ((), σ14))) _ 8 (fun _ τ => τ = wr σ q 3 10)
    (fun n τ hτ => by show (if (8 : Int32) ≤ nI 8 then _ else _) = _; rw [if_pos (by decide)])
    (fun n i τ hi hτ => ⟨τ, by
      show (if (8 : Int32) ≤ nI i then _ else _) = _
      rw [if_neg (show ¬ (8 : Int32) ≤ nI i from nI_ge hi (by decide)), clientRoom_nI hi]
      simp only [lt, bd, oe]
      rw [wr_id (by rw [hτ]; exact hz _ _ (by omega) (by omega)), ← nI_succ], hτ⟩) 8 0 FU _ rfl (by decide) rfl
  exact e2
theorem empty_zero {q : Nat} {σ : Mem} (h : ∀ w, q < w → σ w = fun _ => 0) : f_M_empty q σ = some ((), wr σ (q + 1) 4 10) := by
  unfold f_M_empty
  obtain ⟨τ, e1, rfl⟩ := loopR (L_M_empty_2 q (fun σ2 => lt (wr σ2 (q + 1) 4 (10 : Int32)) fun σ3 => some ((), σ3))) _ 481 (fun _ τ => τ = σ)
    (fun n τ hτ => by show (if (481 : Int32) ≤ nI 481 then _ else _) = _; rw [if_pos (by decide)])
    (fun n i τ hi hτ => ⟨τ, by
      show (if (481 : Int32) ≤ nI i then _ else _) = _
      rw [if_neg (show ¬ (481 : Int32) ≤ nI i from nI_ge hi (by decide)), if_pos (ib_nI hi (by omega)), nI_clamp (by omega)]
      simp only [lt]
      rw [wr_id (by rw [hτ, h (q + 1) (by omega)]), ← nI_succ], hτ⟩) 481 0 FU _ rfl (by decide) rfl
  exact e1
/-- the memory behind the two constructors -/
def Z0 : Mem := fun _ _ => 0
def Z1 : Mem := wr Z0 1 3 10
def Z2 : Mem := wr Z1 43 3 10
def Z3 : Mem := wr Z2 87 3 10
def Z4 : Mem := wr Z3 129 3 10
def Z5 : Mem := wr Z4 171 3 10
def Z6 : Mem := wr Z5 213 3 10
def Z7 : Mem := wr Z6 255 3 10
def Z9 : Mem := wr (wr Z7 299 0 0) 300 4 10
theorem zro {σ : Mem} {a k : Nat} {x : Int32} (n : Nat) (h : ∀ v, n < v → σ v = fun _ => 0) (ha : a ≤ n) : ∀ v, n < v → wr σ a k x v = fun _ => 0 := fun v hv => by
  rw [wr_other (by omega)]
  exact h v hv
theorem zmo {σ : Mem} {n n' : Nat} (h : ∀ v, n < v → σ v = fun _ => 0) (hn : n ≤ n') : ∀ v, n' < v → σ v = fun _ => 0 := fun v hv => h v (by omega)
theorem z0_z : ∀ v, 0 < v → Z0 v = fun _ => 0 := fun _ _ => rfl
theorem z1_z : ∀ v, 1 < v → Z1 v = fun _ => 0 := zro 1 (zmo z0_z (by decide)) (by decide)
theorem z2_z : ∀ v, 43 < v → Z2 v = fun _ => 0 := zro 43 (zmo z1_z (by decide)) (by decide)
theorem z3_z : ∀ v, 87 < v → Z3 v = fun _ => 0 := zro 87 (zmo z2_z (by decide)) (by decide)
theorem z4_z : ∀ v, 129 < v → Z4 v = fun _ => 0 := zro 129 (zmo z3_z (by decide)) (by decide)
theorem z5_z : ∀ v, 171 < v → Z5 v = fun _ => 0 := zro 171 (zmo z4_z (by decide)) (by decide)
theorem z6_z : ∀ v, 213 < v → Z6 v = fun _ => 0 := zro 213 (zmo z5_z (by decide)) (by decide)
theorem z7_z : ∀ v, 255 < v → Z7 v = fun _ => 0 := zro 255 (zmo z6_z (by decide)) (by decide)
theorem z8_z : ∀ v, 299 < v → wr Z7 299 0 0 v = fun _ => 0 := zro 299 (zmo z7_z (by decide)) (by decide)
theorem topOK_L {D : va_G} {b : Nat} {cA : Nat → ClassId} {kA sh : Nat → Nat} {k : Nat} (h : ∀ j, j < 299 → sh j = LTop.getD j 0) : TopOK (KX D b cA kA sh k) 0 := by
  have e1 : ∀ j, j < 42 → LTop.getD (1 + j) 0 = LHub.getD j 0 := by decide +kernel
  have e2 : ∀ j, j < 42 → LTop.getD (43 + j) 0 = LHub.getD j 0 := by decide +kernel
  have e3 : ∀ i, i < 5 → ∀ j, j < 42 → LTop.getD (86 + (1 + 42 * i) + j) 0 = LHub.getD j 0 := by decide +kernel
  refine ⟨h 0 (by decide), hubOK_L (v0 := 1) (fun j hj => (h (1 + j) (by omega)).trans (e1 j hj)), hubOK_L (v0 := 43) (fun j hj => (h (43 + j) (by omega)).trans (e2 j hj)), ⟨h 85 (by decide), h 86 (by decide), fun i hi => hubOK_L (v0 := 86 + (1 + 42 * i)) (fun j hj => (h _ (by omega)).trans (e3 i hi j hj))⟩, ⟨h 297 (by decide), h 298 (by decide)⟩⟩
