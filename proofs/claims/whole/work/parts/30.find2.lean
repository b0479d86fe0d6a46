/-! the reference finds demands and periods: the two later loops -/
theorem pm1 (m : Nat) : nI m + (-1) = nI m - 1 := by
  rw [Int32.sub_eq_add_neg]
/-- a loop that counts down to 0 and carries a number -/
theorem loopD {α A : Type} (Lp : Nat → A → Int32 → Mem → Option α) (k : A → Mem → Option α) (N : Nat) (Inv : Nat → A → Mem → Prop)
    (hend : ∀ n a σ, Inv 0 a σ → Lp (n + 1) a (nI 0 - 1) σ = k a σ) (hstep : ∀ n m a σ, m < N → Inv (m + 1) a σ → ∃ a' σ', Lp (n + 1) a (nI m) σ = Lp n a' (nI m - 1) σ' ∧ Inv m a' σ') :
    ∀ (m n : Nat) (a : A) (σ : Mem), m ≤ N → m < n → Inv m a σ → ∃ a' σ', Lp n a (nI m - 1) σ = k a' σ' ∧ Inv 0 a' σ' := by
  intro m
  induction m with
  | zero =>
    intro n a σ hi hn hI
    obtain ⟨n, rfl⟩ : ∃ m, n = m + 1 := ⟨n - 1, by omega⟩
    exact ⟨a, σ, hend n a σ hI, hI⟩
  | succ m ih =>
    intro n a σ hi hn hI
    obtain ⟨n, rfl⟩ : ∃ m, n = m + 1 := ⟨n - 1, by omega⟩
    obtain ⟨a1, σ1, e1, h1⟩ := hstep n m a σ (by omega) hI
    obtain ⟨a2, σ2, e2, h2⟩ := ih n a1 σ1 (by omega) (by omega) h1
    refine ⟨a2, σ2, ?_, h2⟩
    rw [nI_pred]
    exact e1.trans e2
theorem srcF_4 {S : Nat → Int32} (hW : CW S) : ∀ (f i : Nat), i < f → i < nS S → S (11 + 19 * srcF S f i) = 4 := by
  intro f
  induction f with
  | zero => intro i h; omega
  | succ f ih =>
    intro i hf hi
    show S (11 + 19 * (if S (11 + 19 * i) = 4 then i else srcF S f (S (12 + 19 * i)).toInt.toNat)) = 4
    by_cases h4 : S (11 + 19 * i) = 4
    · rw [if_pos h4]; exact h4
    · have h1 := WP_1 (hW.2 i hi) h4
      rw [if_neg h4]
      exact ih _ (by omega) (by omega)
theorem src_4 {S : Nat → Int32} (hW : CW S) {i : Nat} (hi : i < nS S) : S (11 + 19 * src S i) = 4 := srcF_4 hW 8 i (by have := hW.1; omega) hi
theorem src_id {S : Nat → Int32} {i : Nat} (h : S (11 + 19 * i) = 4) : src S i = i := if_pos h
theorem WP_1n {S : Nat → Int32} {i : Nat} (h : WP S i) (h4 : S (11 + 19 * i) ≠ 4) : S (12 + 19 * i) = nI (S (12 + 19 * i)).toInt.toNat := by
  rcases h with h | h
  · exact absurd h.1 h4
  · exact toNI h.2.1.1
theorem WP_2n {S : Nat → Int32} {i : Nat} (h : WP S i) (h4 : S (11 + 19 * i) ≠ 4) (h3 : S (11 + 19 * i) ≠ 3) : S (13 + 19 * i) = nI (S (13 + 19 * i)).toInt.toNat := by
  rcases h with h | h
  · exact absurd h.1 h4
  · exact toNI (h.2.2.2 h3).1
/-- what the sensor m passes down -/
def dnS (S : Nat → Int32) (m : Nat) (d : Nat → Int32) : Nat → Int32 :=
  if S (11 + 19 * m) ≠ 4 ∧ d m ≠ -9 then
    let f := (S (12 + 19 * m)).toInt.toNat
    let d1 := upS d f (less (d f) (d m))
    let g := if S (11 + 19 * m) = 3 then f else (S (13 + 19 * m)).toInt.toNat
    upS d1 g (less (d1 g) (d1 m))
  else d
theorem dmS_dn {S : Nat → Int32} {j m : Nat} (h : j + 1 + m = nS S) : dmS S (j + 1) = dnS S m (dmS S j) := by
  have e : nS S - 1 - j = m := by omega
  show dmS S (j + 1) = _
  unfold dmS dnS
  rw [e]
  cases j <;> rfl
theorem dn_eq {S : Nat → Int32} {m n : Nat} {d d' : Nat → Int32} (hW : CW S) (hm : m < nS S) (h : ∀ k, k < nS S → d' k = d k) : ∀ k, k < nS S → dnS S m d' k = dnS S m d k := by
  intro k hk
  unfold dnS
  rw [h m hm]
  by_cases hc : S (11 + 19 * m) ≠ 4 ∧ d m ≠ -9
  · have h1 := WP_1 (hW.2 m hm) hc.1
    have hg : (if S (11 + 19 * m) = 3 then (S (12 + 19 * m)).toInt.toNat else (S (13 + 19 * m)).toInt.toNat) < nS S := by
      by_cases h3 : S (11 + 19 * m) = 3
      · rw [if_pos h3]; omega
      · have h2 := WP_2 (hW.2 m hm) hc.1 h3
        rw [if_neg h3]; omega
    rw [if_pos hc, if_pos hc]
    have hu : ∀ x, x < nS S → upS d' (S (12 + 19 * m)).toInt.toNat (less (d' (S (12 + 19 * m)).toInt.toNat) (d m)) x = upS d (S (12 + 19 * m)).toInt.toNat (less (d (S (12 + 19 * m)).toInt.toNat) (d m)) x := fun x hx => by
      unfold upS
      rw [h _ (by omega), h x hx]
    show upS (upS d' _ _) _ (less (upS d' _ _ _) (upS d' _ _ m)) k = upS (upS d _ _) _ (less (upS d _ _ _) (upS d _ _ m)) k
    rw [hu _ hg, hu m hm]
    unfold upS at hu ⊢
    rw [hu k hk]
  · rw [if_neg hc, if_neg hc]
    exact h k hk
theorem find_2 {τ : Mem} {D : Nat → Int32} {K : Int32 → Mem → Option (Int32 × Mem)} (hW : CW (τ 300)) (h0 : 0 ≤ gI (τ 300) 1) (hD : ∀ k, k < nS (τ 300) → D k = askF (τ 300) k 8) : ∃ z D', L_M_find_40 299 K FU 1 (τ 300 1 - 1) (wrow τ 304 D) = K z (wrow τ 304 D') ∧ (z = 0 ∨ z = 1) ∧ ∀ k, k < nS (τ 300) → D' k = dm (τ 300) k := by
  have h8 := hW.1
  have en : τ 300 1 = nI (nS (τ 300)) := toNI h0
  obtain ⟨z, σ', e, hz, D', rfl, hD'⟩ := loopD (L_M_find_40 299 K) K (nS (τ 300)) (fun m z σ => (z = 0 ∨ z = 1) ∧ ∃ D, σ = wrow τ 304 D ∧ ∀ k, k < nS (τ 300) → D k = dmS (τ 300) (nS (τ 300) - m) k)
    (fun n a σ _ => by
      show (if nI 0 - 1 < 0 then _ else _) = _
      rw [if_pos (by decide)])
    (fun n m a σ hm hI => by
      obtain ⟨ha, D, rfl, hD⟩ := hI
      have ej : dmS (τ 300) (nS (τ 300) - m) = dnS (τ 300) m (dmS (τ 300) (nS (τ 300) - (m + 1))) := by
        rw [show nS (τ 300) - m = (nS (τ 300) - (m + 1)) + 1 by omega]
        exact dmS_dn (by omega)
      have hDn := dn_eq (n := 0) hW hm hD
      rw [← ej] at hDn
      have rd : ∀ (D : Nat → Int32) (p : Nat), wrow τ 304 D 300 p = τ 300 p := fun D p => by rw [wrow_m (by decide)]
      have b0 : ∀ (D : Nat → Int32) (g : Int32 → Mem → Option (Int32 × Mem)), bd (f_M_sensor0 299 (nI m) 0 (wrow τ 304 D)) g = g (τ 300 (11 + 19 * m)) (wrow τ 304 D) := fun D g => by rw [bsen (p := 11 + 19 * m) 0 0 (by decide) (by omega) (by decide) (by omega) g, rd]
      have b1 : ∀ (D : Nat → Int32) (g : Int32 → Mem → Option (Int32 × Mem)), bd (f_M_sensor0 299 (nI m) 1 (wrow τ 304 D)) g = g (τ 300 (12 + 19 * m)) (wrow τ 304 D) := fun D g => by rw [bsen (p := 12 + 19 * m) 1 1 (by decide) (by omega) (by decide) (by omega) g, rd]
      have b2 : ∀ (D : Nat → Int32) (g : Int32 → Mem → Option (Int32 × Mem)), bd (f_M_sensor0 299 (nI m) 2 (wrow τ 304 D)) g = g (τ 300 (13 + 19 * m)) (wrow τ 304 D) := fun D g => by rw [bsen (p := 13 + 19 * m) 2 2 (by decide) (by omega) (by decide) (by omega) g, rd]
      have hib : ib (nI m) 8 := ib_nI (by omega) (by decide)
      have hcl : (nI m).toNatClampNeg = m := nI_clamp (by omega)
      generalize hL : L_M_find_40 299 K n = Lr
      unfold L_M_find_40
      rw [hL, if_neg (nI_pos (by omega)), b0]
      by_cases h4 : τ 300 (11 + 19 * m) = 4
      · have hk : ∀ k, k < nS (τ 300) → D k = dmS (τ 300) (nS (τ 300) - m) k := fun k hk => by
          rw [ej]
          unfold dnS
          rw [if_neg (fun z => z.1 h4)]
          exact hD k hk
        rw [if_pos h4]
        by_cases hz : a = 0
        · exact ⟨0, _, by rw [if_pos hz, pm1], Or.inl rfl, D, rfl, hk⟩
        · rw [if_neg hz, if_pos h4, if_pos hib, hcl]
          by_cases h9 : wrow τ 304 D (299 + 5) m = -9
          · exact ⟨1, _, by rw [if_pos h9, pm1], Or.inr rfl, D, rfl, hk⟩
          · rw [if_neg h9, if_pos hib, b1]
            by_cases hl : wrow τ 304 D (299 + 5) m < τ 300 (12 + 19 * m)
            · exact ⟨0, _, by rw [if_pos hl, pm1], Or.inl rfl, D, rfl, hk⟩
            · exact ⟨1, _, by rw [if_neg hl, pm1], Or.inr rfl, D, rfl, hk⟩
      · rw [if_neg h4, if_pos hib, hcl, show wrow τ 304 D (299 + 5) m = D m from by rw [show 299 + 5 = 304 from rfl, wrow_h]]
        have fin : ∀ (D' : Nat → Int32), (∀ k, k < nS (τ 300) → D' k = dmS (τ 300) (nS (τ 300) - m) k) → ∀ (X : Option (Int32 × Mem)), ∃ a' σ', (if a = 0 then Lr 0 (nI m + -1) (wrow τ 304 D') else if τ 300 (11 + 19 * m) = 4 then X else Lr 1 (nI m + -1) (wrow τ 304 D')) = Lr a' (nI m - 1) σ' ∧ (a' = 0 ∨ a' = 1) ∧ ∃ D, σ' = wrow τ 304 D ∧ ∀ k, k < nS (τ 300) → D k = dmS (τ 300) (nS (τ 300) - m) k := fun D' hk X => by
          by_cases hz : a = 0
          · exact ⟨0, _, by rw [if_pos hz, pm1], Or.inl rfl, D', rfl, hk⟩
          · exact ⟨1, _, by rw [if_neg hz, if_neg h4, pm1], Or.inr rfl, D', rfl, hk⟩
        by_cases h9 : D m = -9
        · rw [if_pos h9]
          refine fin D (fun k hk => ?_) _
          rw [ej]
          unfold dnS
          rw [if_neg (fun z => z.2 (by rw [← hD m hm]; exact h9))]
          exact hD k hk
        · have n1 := WP_1n (hW.2 m hm) h4
          have l1 := WP_1 (hW.2 m hm) h4
          rw [if_neg h9, b1, n1]
          have hc : (τ 300 (11 + 19 * m) ≠ 4 ∧ D m ≠ -9) := ⟨h4, h9⟩
          unfold dnS at hDn
          rw [if_pos hc] at hDn
          generalize (τ 300 (12 + 19 * m)).toInt.toNat = f at *
          rw [if_pos (ib_nI (by omega) (by decide)), if_pos hib, show 299 + 5 = 304 from rfl, wrow_h, bd_eq less_s, if_pos (ib_nI (by omega) (by decide)), lt_eq, wr_row, wrow_h, wrow_2, nI_clamp (by omega)]
          by_cases h3 : τ 300 (11 + 19 * m) = 3
          · rw [if_pos h3, if_pos (ib_nI (by omega) (by decide)), if_pos hib, wrow_h, bd_eq less_s, if_pos (ib_nI (by omega) (by decide)), lt_eq, wr_row, wrow_h, wrow_2]
            rw [if_pos h3] at hDn
            exact fin _ hDn _
          · have n2 := WP_2n (hW.2 m hm) h4 h3
            have l2 := WP_2 (hW.2 m hm) h4 h3
            rw [if_neg h3, b2, n2]
            rw [if_neg h3] at hDn
            generalize (τ 300 (13 + 19 * m)).toInt.toNat = g at *
            rw [if_pos (ib_nI (by omega) (by decide)), if_pos hib, wrow_h, nI_clamp (by omega), bd_eq less_s, if_pos (ib_nI (by omega) (by decide)), lt_eq, wr_row, wrow_h, wrow_2]
            exact fin _ hDn _) (nS (τ 300)) FU 1 (wrow τ 304 D) (Nat.le_refl _) (by show _ < 4096; omega) ⟨Or.inr rfl, D, rfl, fun k hk => by rw [Nat.sub_self]; exact hD k hk⟩
  rw [en]
  exact ⟨z, D', e, hz, hD'⟩
