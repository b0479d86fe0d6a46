/-! subscribe -/
def frS (S : Nat → Int32) : Nat → Nat → Int32
  | 0, _ => -9
  | m + 1, j => if S (163 + 27 * j) = 0 then nI j else frS S m (j + 1)
theorem fr_in {S : Nat → Int32} : ∀ m j, j + m ≤ 8 → frS S m j = -9 ∨ ∃ i, i < 8 ∧ frS S m j = nI i ∧ S (163 + 27 * i) = 0 := by
  intro m
  induction m with
  | zero => intro j _; exact Or.inl rfl
  | succ m ih =>
    intro j hj
    show (if S (163 + 27 * j) = 0 then nI j else frS S m (j + 1)) = -9 ∨ ∃ i, i < 8 ∧ (if S (163 + 27 * j) = 0 then nI j else frS S m (j + 1)) = nI i ∧ S (163 + 27 * i) = 0
    by_cases h : S (163 + 27 * j) = 0
    · rw [if_pos h]; exact Or.inr ⟨j, by omega, rfl, h⟩
    · rw [if_neg h]; exact ih (j + 1) (by omega)
theorem fr_X {σ : Mem} {q : Nat} {S : Nat → Int32} (hR : ∀ j, j < 8 → σ (q + 3 + (23 + 2 * j)) 0 = S (163 + 27 * j)) : ∀ m j n, j + m = 8 → m < n → L_Hub_freeClientNumber_2 q (fun σ4 => some ((-9 : Int32), σ4)) n (nI j) σ = some (frS S m j, σ) := by
  intro m
  induction m with
  | zero =>
    intro j n hj hn
    obtain ⟨n, rfl⟩ : ∃ z, n = z + 1 := ⟨n - 1, by omega⟩
    have hj : j = 8 := by omega
    subst hj
    show (if (8 : Int32) ≤ nI 8 then _ else _) = _
    rw [if_pos (by decide)]
    rfl
  | succ m ih =>
    intro j n hj hn
    obtain ⟨n, rfl⟩ : ∃ z, n = z + 1 := ⟨n - 1, by omega⟩
    show (if (8 : Int32) ≤ nI j then _ else _) = some (if S (163 + 27 * j) = 0 then nI j else frS S m (j + 1), σ)
    rw [if_neg (ge8 (by omega)), bd_eq (clientAt_s j (nI_toInt (by omega)) (by omega)), hR j (by omega), ← nI_succ]
    by_cases h : S (163 + 27 * j) = 0
    · rw [if_pos h, if_pos h, oe_none]
    · rw [if_neg h, if_neg h, oe_some]
      exact ih (j + 1) n (by omega) (by omega)
theorem fr_M {τ : Mem} : ∀ m j n, j + m = 8 → m < n → L_M_freeClient_2 299 (fun σ3 => some ((-9 : Int32), σ3)) n (nI j) τ = some (frS (τ 300) m j, τ) := by
  intro m
  induction m with
  | zero =>
    intro j n hj hn
    obtain ⟨n, rfl⟩ : ∃ z, n = z + 1 := ⟨n - 1, by omega⟩
    have hj : j = 8 := by omega
    subst hj
    show (if (8 : Int32) ≤ nI 8 then _ else _) = _
    rw [if_pos (by decide)]
    rfl
  | succ m ih =>
    intro j n hj hn
    obtain ⟨n, rfl⟩ : ∃ z, n = z + 1 := ⟨n - 1, by omega⟩
    show (if (8 : Int32) ≤ nI j then _ else _) = some (if τ 300 (163 + 27 * j) = 0 then nI j else frS (τ 300) m (j + 1), τ)
    rw [if_neg (ge8 (by omega)), bcli (p := 163 + 27 * j) 0 0 (by decide) (by omega) (by decide) (by omega), ← nI_succ]
    by_cases h : τ 300 (163 + 27 * j) = 0
    · rw [if_pos h, if_pos h]
    · rw [if_neg h, if_neg h]
      exact ih (j + 1) n (by omega) (by omega)
/-- whether the demands could be met -/
theorem can_M {τ : Mem} {i : Nat} {p : Int32} {S : Nat → Int32} (h300 : τ 300 = S) (hW : CW S) (hi : i < nS S) : ∃ F, f_M_canMeet 299 (nI i) p τ = some (if lst S i ≤ p.toInt then 1 else 0, wrow τ 307 F) := by
  subst h300
  have h8 := hW.1
  have one : (1 : Int32) &&& 1 = 1 := by decide
  have zer : (0 : Int32) &&& 1 = 0 := by decide
  unfold f_M_canMeet
  obtain ⟨σ1, e1, F1, rfl, hF1⟩ := loopR (L_M_canMeet_5 299 (nI i) p (1 : Int32) (fun σ3 => L_M_canMeet_39 299 p (fun z23 σ24 => if z23 &&& 1 = z23 then some (z23, σ24) else none) FU (1 : Int32) (nI i) σ3)) (fun σ3 => L_M_canMeet_39 299 p (fun z23 σ24 => if z23 &&& 1 = z23 then some (z23, σ24) else none) FU (1 : Int32) (nI i) σ3) 8 (fun x σ => ∃ F, σ = wrow τ 307 F ∧ ∀ k, k < x → F k = if k = i then 1 else 0)
    (fun n σ _ => by show (if (8 : Int32) ≤ nI 8 then _ else _) = _; rw [if_pos (by decide)])
    (fun n x σ hx hI => by
      obtain ⟨F, rfl, hF⟩ := hI
      have hib : ib (nI x) 8 := ib_nI hx (by decide)
      have fin : ∀ v, v = (if x = i then (1 : Int32) else 0) → ∀ k, k < x + 1 → upS F x v k = if k = i then 1 else 0 := fun v hv k hk => by
        by_cases e : k = x
        · rw [upS_h e, hv, e]
        · rw [upS_m e]; exact hF k (by omega)
      generalize hK : (fun σ3 => L_M_canMeet_39 299 p (fun z23 σ24 => if z23 &&& 1 = z23 then some (z23, σ24) else none) FU (1 : Int32) (nI i) σ3) = KK
      generalize hL : L_M_canMeet_5 299 (nI i) p (1 : Int32) KK n = Lr
      unfold L_M_canMeet_5
      rw [hL, if_neg (ge8 hx)]
      by_cases e : x = i
      · rw [if_pos (by rw [e]), if_pos hib, lt_eq, one, nI_clamp (by omega), ← nI_succ]
        simp only [Nat.reduceAdd]
        rw [wr_row, wrow_h, wrow_2]
        exact ⟨_, rfl, _, rfl, fin 1 (by rw [if_pos e])⟩
      · rw [if_neg (fun z => e ((nI_eq (by omega) (by omega)).mp z)), if_pos hib, lt_eq, zer, nI_clamp (by omega), ← nI_succ]
        simp only [Nat.reduceAdd]
        rw [wr_row, wrow_h, wrow_2]
        exact ⟨_, rfl, _, rfl, fin 0 (by rw [if_neg e])⟩) 8 0 FU τ rfl (by decide) ⟨τ 307, wrow_id.symm, fun k hk => by omega⟩
  obtain ⟨z, σ2, e2, F2, rfl, hz, hF2⟩ := loopD (L_M_canMeet_39 299 p (fun z23 σ24 => if z23 &&& 1 = z23 then some (z23, σ24) else none)) (fun z23 σ24 => if z23 &&& 1 = z23 then some (z23, σ24) else none) (i + 1) (fun m z σ => ∃ F, σ = wrow τ 307 F ∧ (z = 0 ∨ z = 1) ∧ ((z = 1 ∧ ∀ k, k < m → F k ≠ 0 → lst (τ 300) k ≤ p.toInt) ↔ lst (τ 300) i ≤ p.toInt))
    (fun n a σ _ => by
      show (if nI 0 - 1 < 0 then _ else _) = _
      rw [if_pos (by decide)])
    (fun n m a σ hm hI => by
      obtain ⟨F, rfl, ha, hiff⟩ := hI
      have hmn : m < nS (τ 300) := by omega
      have hib : ib (nI m) 8 := ib_nI (by omega) (by decide)
      have hcl : (nI m).toNatClampNeg = m := nI_clamp (by omega)
      have rd : ∀ (F : Nat → Int32) (p : Nat), wrow τ 307 F 300 p = τ 300 p := fun F p => by rw [wrow_m (by decide)]
      have b0 : ∀ (F : Nat → Int32) (g : Int32 → Mem → Option (Int32 × Mem)), bd (f_M_sensor0 299 (nI m) 0 (wrow τ 307 F)) g = g (τ 300 (11 + 19 * m)) (wrow τ 307 F) := fun F g => by rw [bsen (p := 11 + 19 * m) 0 0 (by decide) (by omega) (by decide) (by omega) g, rd]
      have b1 : ∀ (F : Nat → Int32) (g : Int32 → Mem → Option (Int32 × Mem)), bd (f_M_sensor0 299 (nI m) 1 (wrow τ 307 F)) g = g (τ 300 (12 + 19 * m)) (wrow τ 307 F) := fun F g => by rw [bsen (p := 12 + 19 * m) 1 1 (by decide) (by omega) (by decide) (by omega) g, rd]
      have b2 : ∀ (F : Nat → Int32) (g : Int32 → Mem → Option (Int32 × Mem)), bd (f_M_sensor0 299 (nI m) 2 (wrow τ 307 F)) g = g (τ 300 (13 + 19 * m)) (wrow τ 307 F) := fun F g => by rw [bsen (p := 13 + 19 * m) 2 2 (by decide) (by omega) (by decide) (by omega) g, rd]
      have hWm := hW.2 m hmn
      generalize hL : L_M_canMeet_39 299 p (fun z23 σ24 => if z23 &&& 1 = z23 then some (z23, σ24) else none) n = Lr
      unfold L_M_canMeet_39
      rw [hL, if_neg (nI_pos (by omega)), b0, if_pos hib, hcl]
      simp only [Nat.reduceAdd]
      rw [wrow_h]
      by_cases hF : F m = 0
      · rw [if_pos hF]
        have hi2 : ((a = 1 ∧ ∀ k, k < m → F k ≠ 0 → lst (τ 300) k ≤ p.toInt) ↔ lst (τ 300) i ≤ p.toInt) := by
          rw [← hiff]
          refine ⟨fun h => ⟨h.1, fun k hk hf => ?_⟩, fun h => ⟨h.1, fun k hk hf => h.2 k (by omega) hf⟩⟩
          by_cases e : k = m
          · rw [e] at hf; exact absurd hF hf
          · exact h.2 k (by omega) hf
        rcases ha with ha | ha
        · rw [if_pos ha, pm1]
          rw [ha] at hi2
          exact ⟨0, _, rfl, F, rfl, Or.inl rfl, hi2⟩
        · rw [if_neg (by rw [ha]; decide), if_pos hib, if_pos hF, pm1]
          rw [ha] at hi2
          exact ⟨1, _, rfl, F, rfl, Or.inr rfl, hi2⟩
      · rw [if_neg hF]
        by_cases h4 : τ 300 (11 + 19 * m) = 4
        · rw [if_pos h4]
          have hlm : lst (τ 300) m = gI (τ 300) (12 + 19 * m) := by rw [lst_eq hW hmn, if_pos h4]
          rcases ha with ha | ha
          · have hi2 : (((0 : Int32) = 1 ∧ ∀ k, k < m → F k ≠ 0 → lst (τ 300) k ≤ p.toInt) ↔ lst (τ 300) i ≤ p.toInt) := by
              rw [← hiff, ha]
              exact ⟨fun h => absurd h.1 (by decide), fun h => absurd h.1 (by decide)⟩
            rw [if_pos ha, pm1]
            exact ⟨0, _, rfl, F, rfl, Or.inl rfl, hi2⟩
          · rw [if_neg (by rw [ha]; decide), if_pos hib, if_neg hF, if_pos h4, b1]
            by_cases hl : p < τ 300 (12 + 19 * m)
            · have hi2 : (((0 : Int32) = 1 ∧ ∀ k, k < m → F k ≠ 0 → lst (τ 300) k ≤ p.toInt) ↔ lst (τ 300) i ≤ p.toInt) := by
                rw [← hiff]
                refine ⟨fun h => absurd h.1 (by decide), fun h => ?_⟩
                have h2 := h.2 m (by omega) hF
                rw [hlm] at h2
                rw [Int32.lt_iff_toInt_lt] at hl
                unfold gI at h2
                omega
              rw [if_pos hl, pm1]
              exact ⟨0, _, rfl, F, rfl, Or.inl rfl, hi2⟩
            · have hi2 : (((1 : Int32) = 1 ∧ ∀ k, k < m → F k ≠ 0 → lst (τ 300) k ≤ p.toInt) ↔ lst (τ 300) i ≤ p.toInt) := by
                rw [← hiff, ha]
                refine ⟨fun h => ⟨rfl, fun k hk hf => ?_⟩, fun h => ⟨rfl, fun k hk hf => h.2 k (by omega) hf⟩⟩
                by_cases e : k = m
                · rw [e, hlm]
                  rw [Int32.lt_iff_toInt_lt] at hl
                  unfold gI
                  omega
                · exact h.2 k (by omega) hf
              rw [if_neg hl, pm1]
              exact ⟨1, _, rfl, F, rfl, Or.inr rfl, hi2⟩
        · rw [if_neg h4]
          have n1 := WP_1n hWm h4
          have l1 := WP_1 hWm h4
          have hlA := lst_eq hW hmn
          rw [if_neg h4] at hlA
          have fin : ∀ F' : Nat → Int32, F' m ≠ 0 → ((a = 1 ∧ ∀ k, k < m → F' k ≠ 0 → lst (τ 300) k ≤ p.toInt) ↔ lst (τ 300) i ≤ p.toInt) → ∀ (Y : Option (Int32 × Mem)), ∃ a' σ', (if a = 0 then Lr 0 (nI m + -1) (wrow τ 307 F') else if ib (nI m) 8 then (if wrow τ 307 F' 307 m = 0 then Lr 1 (nI m + -1) (wrow τ 307 F') else if τ 300 (11 + 19 * m) = 4 then Y else Lr 1 (nI m + -1) (wrow τ 307 F')) else none) = Lr a' (nI m - 1) σ' ∧ ∃ F, σ' = wrow τ 307 F ∧ (a' = 0 ∨ a' = 1) ∧ ((a' = 1 ∧ ∀ k, k < m → F k ≠ 0 → lst (τ 300) k ≤ p.toInt) ↔ lst (τ 300) i ≤ p.toInt) := fun F' hFm hi2 Y => by
            rcases ha with ha | ha
            · rw [if_pos ha, pm1]
              rw [ha] at hi2
              exact ⟨0, _, rfl, F', rfl, Or.inl rfl, hi2⟩
            · rw [if_neg (by rw [ha]; decide), if_pos hib, wrow_h, if_neg hFm, if_neg h4, pm1]
              rw [ha] at hi2
              exact ⟨1, _, rfl, F', rfl, Or.inr rfl, hi2⟩
          rw [b1, n1, if_pos (ib_nI (by omega) (by decide)), lt_eq, one, nI_clamp (by omega), wr_row, wrow_h, wrow_2]
          generalize hf1 : (τ 300 (12 + 19 * m)).toInt.toNat = f at *
          by_cases h3 : τ 300 (11 + 19 * m) = 3
          · rw [if_pos h3] at hlA
            rw [if_pos h3, b1, n1, if_pos (ib_nI (by omega) (by decide)), lt_eq, nI_clamp (by omega), wr_row, wrow_h, wrow_2, upS_2]
            refine fin (upS F f 1) (by rw [upS_m (by omega)]; exact hF) ?_ _
            rw [← hiff]
            refine ⟨fun h => ⟨h.1, fun k hk hf => ?_⟩, fun h => ⟨h.1, fun k hk hf => ?_⟩⟩
            · by_cases e : k = m
              · rw [e, hlA]
                exact h.2 f (by omega) (by rw [upS_h rfl]; decide)
              · refine h.2 k (by omega) ?_
                by_cases e2 : k = f
                · rw [upS_h e2]; decide
                · rw [upS_m e2]; exact hf
            · by_cases e2 : k = f
              · rw [e2, ← hlA]
                exact h.2 m (by omega) hF
              · rw [upS_m e2] at hf
                exact h.2 k (by omega) hf
          · have n2 := WP_2n hWm h4 h3
            have l2 := WP_2 hWm h4 h3
            rw [if_neg h3] at hlA
            rw [if_neg h3, b2, n2, if_pos (ib_nI (by omega) (by decide)), lt_eq, nI_clamp (by omega), wr_row, wrow_h, wrow_2]
            generalize hg1 : (τ 300 (13 + 19 * m)).toInt.toNat = g at *
            refine fin (upS (upS F f 1) g 1) (by rw [upS_m (by omega), upS_m (by omega)]; exact hF) ?_ _
            rw [← hiff]
            refine ⟨fun h => ⟨h.1, fun k hk hf => ?_⟩, fun h => ⟨h.1, fun k hk hf => ?_⟩⟩
            · by_cases e : k = m
              · have ha1 := h.2 f (by omega) (by
                  by_cases e3 : f = g
                  · rw [upS_h e3]; decide
                  · rw [upS_m e3, upS_h rfl]; decide)
                have ha2 := h.2 g (by omega) (by rw [upS_h rfl]; decide)
                rw [e, hlA]
                omega
              · refine h.2 k (by omega) ?_
                by_cases e3 : k = g
                · rw [upS_h e3]; decide
                · rw [upS_m e3]
                  by_cases e2 : k = f
                  · rw [upS_h e2]; decide
                  · rw [upS_m e2]; exact hf
            · have hm2 := h.2 m (by omega) hF
              rw [hlA] at hm2
              by_cases e3 : k = g
              · rw [e3]; omega
              · rw [upS_m e3] at hf
                by_cases e2 : k = f
                · rw [e2]; omega
                · rw [upS_m e2] at hf
                  exact h.2 k (by omega) hf) (i + 1) FU 1 (wrow τ 307 F1) (Nat.le_refl _) (by show _ < 4096; omega) ⟨F1, rfl, Or.inr rfl, by
      refine ⟨fun h => h.2 i (by omega) (by rw [hF1 i (by omega), if_pos rfl]; decide), fun h => ⟨rfl, fun k hk hf => ?_⟩⟩
      by_cases e : k = i
      · rw [e]; exact h
      · rw [hF1 k (by omega), if_neg e] at hf
        exact absurd rfl hf⟩
  refine ⟨F2, ?_⟩
  have ei : nI (i + 1) - 1 = nI i := pk_sub (b := 1) (by omega)
  rw [ei] at e2
  rw [show (0 : Int32) = nI 0 from rfl] at *
  rw [e1, e2]
  have hz2 : (z = 1 ↔ lst (τ 300) i ≤ p.toInt) := ⟨fun h => hF2.mp ⟨h, fun k hk => by omega⟩, fun h => (hF2.mpr h).1⟩
  rcases hz with hz | hz
  · have hn : ¬ lst (τ 300) i ≤ p.toInt := fun h => by
      have := hz2.mpr h
      rw [this] at hz
      exact absurd hz (by decide)
    rw [if_neg hn, hz]
    rfl
  · rw [if_pos (hz2.mp hz), hz]
    rfl
