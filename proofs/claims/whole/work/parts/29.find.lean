/-! the reference finds demands and periods -/
/-- a loop that counts up and carries a number -/
theorem loopA {α A : Type} (Lp : Nat → A → Int32 → Mem → Option α) (k : A → Mem → Option α) (N : Nat) (Inv : Nat → A → Mem → Prop)
    (hend : ∀ n a σ, Inv N a σ → Lp (n + 1) a (nI N) σ = k a σ) (hstep : ∀ n i a σ, i < N → Inv i a σ → ∃ a' σ', Lp (n + 1) a (nI i) σ = Lp n a' (nI (i + 1)) σ' ∧ Inv (i + 1) a' σ') :
    ∀ (j i n : Nat) (a : A) (σ : Mem), i + j = N → j < n → Inv i a σ → ∃ a' σ', Lp n a (nI i) σ = k a' σ' ∧ Inv N a' σ' := by
  intro j
  induction j with
  | zero =>
    intro i n a σ hi hn hI
    have hi : i = N := hi
    subst hi
    obtain ⟨n, rfl⟩ : ∃ m, n = m + 1 := ⟨n - 1, by omega⟩
    exact ⟨a, σ, hend n a σ hI, hI⟩
  | succ j ih =>
    intro i n a σ hi hn hI
    obtain ⟨n, rfl⟩ : ∃ m, n = m + 1 := ⟨n - 1, by omega⟩
    obtain ⟨a1, σ1, e1, h1⟩ := hstep n i a σ (by omega) hI
    obtain ⟨a2, σ2, e2, h2⟩ := ih (i + 1) n a1 σ1 (by omega) (by omega) h1
    exact ⟨a2, σ2, e1.trans e2, h2⟩
theorem less_s {x y : Int32} {σ : Mem} : f_M_less x y σ = some (less x y, σ) := by
  unfold f_M_less less
  by_cases h1 : x = -9
  · rw [if_pos h1, if_pos h1]
  · rw [if_neg h1, if_neg h1]
    by_cases h2 : y = -9
    · rw [if_pos h2, if_pos h2]
    · rw [if_neg h2, if_neg h2]
      by_cases h3 : y ≤ x
      · rw [if_pos h3, if_neg (by rw [Int32.lt_iff_toInt_lt]; rw [Int32.le_iff_toInt_le] at h3; omega)]
      · rw [if_neg h3, if_pos (by rw [Int32.lt_iff_toInt_lt]; rw [Int32.le_iff_toInt_le] at h3; omega)]
theorem sen_n {τ : Mem} {i k : Nat} {kk : Int32} (hk : kk.toInt = k) (hi : i < 8) (h : k < 19) : f_M_sensor0 299 (nI i) kk τ = some (τ 300 (11 + 19 * i + k), τ) := sensor0_s i k (nI_toInt (by omega)) hk hi h
theorem cli_n {τ : Mem} {i k : Nat} {kk : Int32} (hk : kk.toInt = k) (hi : i < 8) (h : k < 27) : f_M_client0 299 (nI i) kk τ = some (τ 300 (163 + 27 * i + k), τ) := client0_s i k (nI_toInt (by omega)) hk hi h
theorem bsen {β : Type} {τ : Mem} {i p : Nat} (k : Nat) (kk : Int32) (hk : kk.toInt = k) (hi : i < 8) (h : k < 19) (hp : p = 11 + 19 * i + k) (g : Int32 → Mem → Option β) : bd (f_M_sensor0 299 (nI i) kk τ) g = g (τ 300 p) τ := by
  rw [bd_eq (sen_n hk hi h), hp]
theorem bcli {β : Type} {τ : Mem} {i p : Nat} (k : Nat) (kk : Int32) (hk : kk.toInt = k) (hi : i < 8) (h : k < 27) (hp : p = 163 + 27 * i + k) (g : Int32 → Mem → Option β) : bd (f_M_client0 299 (nI i) kk τ) g = g (τ 300 p) τ := by
  rw [bd_eq (cli_n hk hi h), hp]
theorem asked_s {τ : Mem} {k : Nat} : f_M_asked 299 (nI k) τ = some (askF (τ 300) k 8, τ) := by
  unfold f_M_asked
  obtain ⟨a, σ', e, h1, h2⟩ := loopA (L_M_asked_5 299 (nI k) (fun z9 σ10 => some (z9, σ10))) (fun z9 σ10 => some (z9, σ10)) 8 (fun j a σ => σ = τ ∧ a = askF (τ 300) k j)
    (fun n a σ _ => by show (if (8 : Int32) ≤ nI 8 then _ else _) = _; rw [if_pos (by decide)])
    (fun n i a σ hi hI => by
      obtain ⟨rfl, rfl⟩ := hI
      have b0 := fun g : Int32 → Mem → Option (Int32 × Mem) => bcli (τ := σ) (i := i) (p := 163 + 27 * i) 0 0 (by decide) (by omega) (by decide) (by omega) g
      have b1 := fun g : Int32 → Mem → Option (Int32 × Mem) => bcli (τ := σ) (i := i) (p := 164 + 27 * i) 1 1 (by decide) (by omega) (by decide) (by omega) g
      have b2 := fun g : Int32 → Mem → Option (Int32 × Mem) => bcli (τ := σ) (i := i) (p := 165 + 27 * i) 2 2 (by decide) (by omega) (by decide) (by omega) g
      refine ⟨askF (σ 300) k (i + 1), σ, ?_, rfl, rfl⟩
      show (if (8 : Int32) ≤ nI i then _ else _) = _
      rw [if_neg (show ¬ (8 : Int32) ≤ nI i from nI_ge hi (by decide)), b0, ← nI_succ]
      show _ = L_M_asked_5 299 (nI k) _ n (if σ 300 (163 + 27 * i) = 1 ∧ σ 300 (164 + 27 * i) = nI k then less (askF (σ 300) k i) (σ 300 (165 + 27 * i)) else askF (σ 300) k i) (nI (i + 1)) σ
      by_cases h1 : σ 300 (163 + 27 * i) = 1
      · rw [if_pos h1, b1]
        by_cases h2 : σ 300 (164 + 27 * i) = nI k
        · rw [if_pos h2, b2, bd_eq less_s, if_pos ⟨h1, h2⟩]
        · rw [if_neg h2, if_neg (fun z => h2 z.2)]
      · rw [if_neg h1, if_neg (fun z => h1 z.1)]) 8 0 FU (-9) τ rfl (by decide) ⟨rfl, rfl⟩
  subst h1 h2
  exact e
theorem source_lp {τ : Mem} {K : Int32 → Mem → Option (Int32 × Mem)} (hW : CW (τ 300)) : ∀ (f i n : Nat), i < f → i < n → i < nS (τ 300) → L_M_source_2 299 K n (nI i) τ = K (nI (srcF (τ 300) f i)) τ := by
  intro f
  have h8 := hW.1
  induction f with
  | zero => intro i n h; omega
  | succ f ih =>
    intro i n hf hn hi
    obtain ⟨n, rfl⟩ : ∃ m, n = m + 1 := ⟨n - 1, by omega⟩
    have b0 := fun g : Int32 → Mem → Option (Int32 × Mem) => bsen (τ := τ) (i := i) (p := 11 + 19 * i) 0 0 (by decide) (by omega) (by decide) (by omega) g
    have b1 := fun g : Int32 → Mem → Option (Int32 × Mem) => bsen (τ := τ) (i := i) (p := 12 + 19 * i) 1 1 (by decide) (by omega) (by decide) (by omega) g
    unfold L_M_source_2
    show _ = K (nI (if τ 300 (11 + 19 * i) = 4 then i else srcF (τ 300) f (τ 300 (12 + 19 * i)).toInt.toNat)) τ
    rw [b0]
    by_cases h4 : τ 300 (11 + 19 * i) = 4
    · rw [if_pos h4, if_pos h4]
    · have h1 := WP_1 (hW.2 i hi) h4
      have hn : 0 ≤ (τ 300 (12 + 19 * i)).toInt := by
        rcases hW.2 i hi with h | h
        · exact absurd h.1 h4
        · exact h.2.1.1
      rw [if_neg h4, if_neg h4, b1, ← ih (τ 300 (12 + 19 * i)).toInt.toNat n (by omega) (by omega) (by omega), ← toNI hn]
theorem source_s {τ : Mem} {i : Nat} (hW : CW (τ 300)) (hi : i < nS (τ 300)) : f_M_source 299 (nI i) τ = some (nI (src (τ 300) i), τ) := by
  have h8 := hW.1
  exact source_lp hW 8 i FU (by omega) (by show i < 4096; omega) hi
theorem supported_lp {τ : Mem} {i : Nat} {d : Int32} {K : Int32 → Mem → Option (Int32 × Mem)} (hi : i < 8) : ∀ (f m n : Nat) (p : Int32), gI (τ 300) (13 + 19 * i) ≤ m + f → f < n → m + f < 100 → L_M_supported_10 299 (nI i) d K n p (nI m) τ = K (supL (τ 300 (13 + 19 * i)) d f p (nI m)) τ := by
  intro f
  have b0 := fun g : Int32 → Mem → Option (Int32 × Mem) => bsen (τ := τ) (i := i) (p := 13 + 19 * i) 2 2 (by decide) (by omega) (by decide) (by omega) g
  induction f with
  | zero =>
    intro m n p h hn hm
    obtain ⟨n, rfl⟩ : ∃ m, n = m + 1 := ⟨n - 1, by omega⟩
    unfold L_M_supported_10
    unfold gI at h
    rw [b0, if_pos (by rw [Int32.le_iff_toInt_le, nI_toInt (by omega)]; omega)]
    rfl
  | succ f ih =>
    intro m n p h hn hm
    obtain ⟨n, rfl⟩ : ∃ m, n = m + 1 := ⟨n - 1, by omega⟩
    unfold L_M_supported_10
    show _ = K (if nI m < τ 300 (13 + 19 * i) ∧ 2 * p ≤ d then supL (τ 300 (13 + 19 * i)) d f (2 * p) (nI m + 1) else p) τ
    rw [b0]
    by_cases h1 : τ 300 (13 + 19 * i) ≤ nI m
    · rw [if_pos h1, if_neg (fun z => by have := z.1; rw [Int32.lt_iff_toInt_lt] at this; rw [Int32.le_iff_toInt_le] at h1; omega)]
    · rw [if_neg h1]
      by_cases h2 : d < 2 * p
      · rw [if_pos h2, if_neg (fun z => by have := z.2; rw [Int32.le_iff_toInt_le] at this; rw [Int32.lt_iff_toInt_lt] at h2; omega)]
      · rw [if_neg h2, if_pos ⟨by rw [Int32.lt_iff_toInt_lt]; rw [Int32.le_iff_toInt_le] at h1; omega, by rw [Int32.le_iff_toInt_le]; rw [Int32.lt_iff_toInt_lt] at h2; omega⟩, lt_eq, Int32.mul_comm p 2, ← nI_succ]
        exact ih (m + 1) n (2 * p) (by omega) (by omega) (by omega)
theorem supported_s {τ : Mem} {i : Nat} {d : Int32} (hi : i < 8) (h : gI (τ 300) (13 + 19 * i) ≤ 5) : f_M_supported 299 (nI i) d τ = some (sup (τ 300) i d, τ) := by
  have b0 := fun g : Int32 → Mem → Option (Int32 × Mem) => bsen (τ := τ) (i := i) (p := 12 + 19 * i) 1 1 (by decide) (by omega) (by decide) (by omega) g
  unfold f_M_supported
  rw [b0]
  exact supported_lp hi 8 1 FU _ (by omega) (by decide) (by decide)
theorem find_1 {τ : Mem} {K : Mem → Option (Int32 × Mem)} (h0 : 0 ≤ gI (τ 300) 1) (h8 : nS (τ 300) ≤ 8) : ∃ D, L_M_find_2 299 K FU 0 τ = K (wrow τ 304 D) ∧ ∀ k, k < nS (τ 300) → D k = askF (τ 300) k 8 := by
  have en : τ 300 1 = nI (nS (τ 300)) := toNI h0
  obtain ⟨σ', e, D, rfl, hD⟩ := loopR (L_M_find_2 299 K) K (nS (τ 300)) (fun i σ => ∃ D, σ = wrow τ 304 D ∧ ∀ k, k < i → D k = askF (τ 300) k 8)
    (fun n σ hI => by
      obtain ⟨D, rfl, hD⟩ := hI
      show (if wrow τ 304 D 300 1 ≤ nI (nS (τ 300)) then _ else _) = _
      rw [wrow_m (by decide), en, if_pos (nI_le (Nat.le_refl _) (by omega))])
    (fun n i σ hi hI => by
      obtain ⟨D, rfl, hD⟩ := hI
      refine ⟨wrow τ 304 (upS D i (askF (τ 300) i 8)), ?_, _, rfl, fun k hk => ?_⟩
      · show (if wrow τ 304 D 300 1 ≤ nI i then _ else _) = _
        rw [wrow_m (by decide), en, if_neg (nI_ge hi (by omega)), bd_eq asked_s, if_pos (ib_nI (by omega) (by decide)), lt_eq, nI_clamp (by omega), wr_row, wrow_h, wrow_2, wrow_m (by decide), ← nI_succ]
      · by_cases e : k = i
        · rw [upS_h e, e]
        · rw [upS_m e]
          exact hD k (by omega)) (nS (τ 300)) 0 FU τ (by omega) (by show _ < 4096; omega) ⟨τ 304, wrow_id.symm, fun k hk => by omega⟩
  exact ⟨D, e, hD⟩
