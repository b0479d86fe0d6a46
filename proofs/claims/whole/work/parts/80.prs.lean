/-! the whole text, on both sides; an empty hub -/
def prs (c : Nat → Int32) (L : Nat) : Nat → (Nat → Int32) → Nat → Nat → (Nat ⊕ Nat) × (Nat → Int32) × Nat
  | 0, S, _, x => (.inr 0, S, x)
  | n + 1, S, b, x => if tkd c L b = 0 then (.inl b, S, x) else
      match (itm c L S b).1 with
      | .inl b' => prs c L n (itm c L S b).2 b' (x + 1)
      | .inr s => (.inr s, S, x + 1)
theorem prs_0 {c : Nat → Int32} {L n : Nat} {S : Nat → Int32} {b x : Nat} (h : tkd c L b = 0) : prs c L (n + 1) S b x = (.inl b, S, x) := if_pos h
theorem prs_l {c : Nat → Int32} {L n : Nat} {S : Nat → Int32} {b x b' : Nat} (h : ¬ tkd c L b = 0) (h1 : (itm c L S b).1 = .inl b') : prs c L (n + 1) S b x = prs c L n (itm c L S b).2 b' (x + 1) := by
  show (if tkd c L b = 0 then _ else _) = _
  rw [if_neg h, h1]
theorem prs_r {c : Nat → Int32} {L n : Nat} {S : Nat → Int32} {b x s : Nat} (h : ¬ tkd c L b = 0) (h1 : (itm c L S b).1 = .inr s) : prs c L (n + 1) S b x = (.inr s, S, x + 1) := by
  show (if tkd c L b = 0 then _ else _) = _
  rw [if_neg h, h1]
theorem prs_x {c : Nat → Int32} {L : Nat} : ∀ (n : Nat) (S : Nat → Int32) (b x : Nat), (prs c L n S b x).2.2 ≤ x + n := by
  intro n
  induction n with
  | zero => exact fun S b x => Nat.le_refl x
  | succ n ih =>
    intro S b x
    by_cases h : tkd c L b = 0
    · rw [prs_0 h]
      exact Nat.le_add_right x (n + 1)
    · cases h1 : (itm c L S b).1 with
      | inl b' =>
        rw [prs_l h h1]
        have := ih (itm c L S b).2 b' (x + 1)
        omega
      | inr s =>
        rw [prs_r h h1]
        show x + 1 ≤ x + (n + 1)
        omega
theorem prs_W {c : Nat → Int32} {L : Nat} : ∀ (n : Nat) (S : Nat → Int32) (b x b' : Nat), b ≤ L → WF S → (prs c L n S b x).1 = .inl b' → WF (prs c L n S b x).2.1 ∧ gI (prs c L n S b x).2.1 0 = gI S 0 := by
  intro n
  induction n with
  | zero => exact fun S b x b' _ _ h => by cases h
  | succ n ih =>
    intro S b x b' hb hW h
    by_cases h0 : tkd c L b = 0
    · rw [prs_0 h0]
      exact ⟨hW, rfl⟩
    · cases h1 : (itm c L S b).1 with
      | inl b1 =>
        rw [prs_l h0 h1] at h ⊢
        obtain ⟨u1, u2, u3, u4⟩ := itm_ok hb hW h1
        obtain ⟨v1, v2⟩ := ih _ _ _ _ u4 u1 h
        exact ⟨v1, v2.trans u2⟩
      | inr s =>
        rw [prs_r h0 h1] at h
        cases h
def oC (σ : Mem) (R : (Nat ⊕ Nat) × (Nat → Int32) × Nat) : Prop := (∀ b, R.1 = .inl b → σ 297 2 = 0 ∧ RH σ 43 R.2.1) ∧ ∀ s, R.1 = .inr s → cB σ s
def oM (τ : Mem) (R : (Nat ⊕ Nat) × (Nat → Int32) × Nat) : Prop := (∀ b, R.1 = .inl b → τ 299 15 = 0 ∧ τ 300 = R.2.1) ∧ ∀ s, R.1 = .inr s → τ 299 15 = 1 ∧ τ 299 12 = nI s
theorem lp_c {K : Int32 → Mem → Option (Int32 × Mem)} {c : Nat → Int32} {L : Nat} : ∀ (n f : Nat) (S : Nat → Int32) (b x : Nat) (σ : Mem), L < b + n → n < f → x ≤ b → TX σ c L → cH σ c L (.inl b) → WF S → RH σ 43 S → FBq σ 43 → ∃ σ', L_Txt_read_16 297 43 K f (nI x) σ = K (nI (prs c L n S b x).2.2) σ' ∧ XC σ σ' ∧ FBq σ' 43 ∧ oC σ' (prs c L n S b x) := by
  intro n
  induction n with
  | zero =>
    intro f S b x σ h1 _ _ _ hH
    have := hH.1
    omega
  | succ n ih =>
    intro f S b x σ hn hf hx h hH hW hR hB
    obtain ⟨f, rfl⟩ : ∃ m, f = m + 1 := ⟨f - 1, by omega⟩
    have hL := h.2.2.1
    have h3k := tkd_3 (c := c) (L := L) (b := b)
    unfold L_Txt_read_16
    rw [if_pos hH.2.1, hH.2.2.1]
    by_cases h0 : tkd c L b = 0
    · rw [prs_0 h0, if_pos (show nI (tkd c L b) = (0 : Int32) by rw [h0]; rfl)]
      exact ⟨σ, rfl, XC_7 X7_r, hB, fun b' _ => ⟨hH.2.1, hR⟩, fun s hs => by cases hs⟩
    have hsl := tkd_1L (c := c) (L := L) (b := b) h0
    have hbt := tks_b (c := c) hH.1
    have hte := (tke_b (c := c) hH.1).2.2 hsl
    rw [if_neg (show ¬ nI (tkd c L b) = (0 : Int32) from fun z => h0 ((nI_eq (b := 0) (by omega) (by decide)).mp z)), if_neg (show ¬ (160 : Int32) ≤ nI x from nI_ge (b := 160) (by omega) (by decide))]
    obtain ⟨σ1, e1, x1, g1, g2, g3⟩ := item_c h hH hW hR hB
    obtain ⟨σ2, e2, x2, g4⟩ := next_c (XC_T x1 h) g1
    have X12 := XC_t x1 (XC_7 x2)
    have B2 := X7_B x2 g2
    rw [bd_eq e1, bd_eq e2, ← nI_succ]
    cases h1 : (itm c L S b).1 with
    | inl b1 =>
      rw [h1] at g4
      obtain ⟨u1, u2, u3, u4⟩ := itm_ok hH.1 hW h1
      have R2 := X7_R u1.1 x2 (g3 b1 h1)
      rw [prs_l h0 h1]
      obtain ⟨σ3, e3, x3, B3, o3⟩ := ih f _ b1 (x + 1) σ2 (by omega) (by omega) (by omega) (XC_T X12 h) g4 u1 R2 B2
      exact ⟨σ3, e3, XC_t X12 x3, B3, o3⟩
    | inr s =>
      rw [h1] at g4
      have g4' : cB σ2 s := g4
      obtain ⟨f, rfl⟩ : ∃ m, f = m + 1 := ⟨f - 1, by omega⟩
      rw [prs_r h0 h1]
      unfold L_Txt_read_16
      rw [if_neg (show ¬ σ2 297 2 = 0 by rw [g4'.1]; decide)]
      exact ⟨σ2, rfl, X12, B2, fun b' hb' => (by cases hb'), fun s' hs' => (by cases hs'; exact g4')⟩
theorem lp_m {K : Int32 → Mem → Option (Int32 × Mem)} {c : Nat → Int32} {L : Nat} : ∀ (n f : Nat) (S : Nat → Int32) (b x : Nat) (τ : Mem), L < b + n → n < f → TM τ c L → rH τ c L (.inl b) → WF S → τ 300 = S → ∃ τ', L_M_load_29 299 K f (nI x) τ = K (nI (prs c L n S b x).2.2) τ' ∧ XM τ τ' ∧ oM τ' (prs c L n S b x) := by
  intro n
  induction n with
  | zero =>
    intro f S b x τ h1 _ _ hH
    have := hH.1
    omega
  | succ n ih =>
    intro f S b x τ hn hf h hH hW h300
    obtain ⟨f, rfl⟩ : ∃ m, f = m + 1 := ⟨f - 1, by omega⟩
    have hL := h.2.2.1
    have h3k := tkd_3 (c := c) (L := L) (b := b)
    unfold L_M_load_29
    rw [if_pos hH.2.1, hH.2.2.1]
    by_cases h0 : tkd c L b = 0
    · rw [prs_0 h0, if_pos ((rk_3 h3k).mpr h0)]
      exact ⟨τ, rfl, XM_9 X9_r, fun b' _ => ⟨hH.2.1, h300⟩, fun s hs => by cases hs⟩
    have hsl := tkd_1L (c := c) (L := L) (b := b) h0
    have hbt := tks_b (c := c) hH.1
    have hte := (tke_b (c := c) hH.1).2.2 hsl
    rw [if_neg (fun z => h0 ((rk_3 h3k).mp z))]
    obtain ⟨τ1, e1, x1, g1, g2⟩ := item_m h hH hW h300
    rw [bd_eq e1, ← nI_succ]
    cases h1 : (itm c L S b).1 with
    | inl b1 =>
      rw [h1] at g1
      obtain ⟨u1, u2, u3, u4⟩ := itm_ok hH.1 hW h1
      rw [prs_l h0 h1]
      obtain ⟨τ3, e3, x3, o3⟩ := ih f _ b1 (x + 1) τ1 (by omega) (by omega) (XM_T x1 h) g1 u1 (g2 b1 h1)
      exact ⟨τ3, e3, XM_t x1 x3, o3⟩
    | inr s =>
      rw [h1] at g1
      have g1' : τ1 299 15 = 1 ∧ τ1 299 12 = nI s := g1
      obtain ⟨f, rfl⟩ : ∃ m, f = m + 1 := ⟨f - 1, by omega⟩
      rw [prs_r h0 h1]
      unfold L_M_load_29
      rw [if_neg (show ¬ τ1 299 15 = 0 by rw [g1'.1]; decide)]
      exact ⟨τ1, rfl, x1, fun b' hb' => (by cases hb'), fun s' hs' => (by cases hs'; exact g1')⟩
/-- the empty row -/
def emS (A : Nat → Int32) : Nat → Int32 := fun p => if p < 481 then (if p = 4 then 10 else 0) else A p
theorem em_0 {A : Nat → Int32} {p : Nat} (h : p < 481) (h4 : p ≠ 4) : emS A p = 0 := by
  unfold emS
  rw [if_pos h, if_neg h4]
theorem em_4 {A : Nat → Int32} : emS A 4 = 10 := rfl
theorem em_W {A : Nat → Int32} : WF (emS A) ∧ gI (emS A) 0 = 0 := by
  have z : ∀ p, p < 481 → p ≠ 4 → gI (emS A) p = 0 := fun p h h4 => by
    unfold gI
    rw [em_0 h h4, z0T]
  have z4 : gI (emS A) 4 = 10 := by
    unfold gI
    rw [em_4]
    decide
  have hn : nS (emS A) = 0 := by
    have := z 1 (by omega) (by omega)
    unfold gI at this
    unfold nS
    omega
  refine ⟨⟨?_, fun i hi => ?_, fun j hj => ?_, fun e he => ?_⟩, z 0 (by omega) (by omega)⟩
  · unfold WG
    rw [z 0 (by omega) (by omega), z 6 (by omega) (by omega), z 1 (by omega) (by omega), z 2 (by omega) (by omega), z 3 (by omega) (by omega), z4, z 7 (by omega) (by omega), z 8 (by omega) (by omega), z 9 (by omega) (by omega), z 10 (by omega) (by omega)]
    omega
  · omega
  · exact Or.inl (em_0 (by omega) (by omega))
  · rw [z 3 (by omega) (by omega)] at he
    omega
theorem empty_M {τ : Mem} : f_M_empty 299 τ = some ((), wrow τ 300 (emS (τ 300))) := by
  unfold f_M_empty
  obtain ⟨σ', e, rfl⟩ := loopR (L_M_empty_2 299 (fun σ2 => lt (wr σ2 (299 + 1) 4 (10 : Int32)) fun σ3 => some ((), σ3))) (fun σ2 => lt (wr σ2 (299 + 1) 4 (10 : Int32)) fun σ3 => some ((), σ3)) 481 (fun i σ => σ = wrow τ 300 (fun p => if p < i then 0 else τ 300 p))
    (fun n σ _ => by show (if (481 : Int32) ≤ nI 481 then _ else _) = _; rw [if_pos (by decide)])
    (fun n i σ hi hI => by
      subst hI
      refine ⟨_, ?_, rfl⟩
      show (if (481 : Int32) ≤ nI i then _ else _) = _
      rw [if_neg (show ¬ (481 : Int32) ≤ nI i from nI_ge hi (by decide)), if_pos (ib_nI (by omega) (by decide)), lt_eq, nI_clamp (by omega), ← nI_succ]
      simp only [Nat.reduceAdd]
      rw [wr_row, wrow_h, wrow_2]
      refine congrArg (fun f => L_M_empty_2 299 _ n (nI (i + 1)) (wrow τ 300 f)) ?_
      funext p
      by_cases e : p = i
      · rw [upS_h e, if_pos (by omega)]
      · rw [upS_m e]
        by_cases h : p < i
        · rw [if_pos h, if_pos (by omega)]
        · rw [if_neg h, if_neg (by omega)]) 481 0 FU τ rfl (by decide) (by
      show τ = wrow τ 300 (fun p => if p < 0 then 0 else τ 300 p)
      have : (fun p => if p < 0 then 0 else τ 300 p) = τ 300 := by
        funext p
        rw [if_neg (by omega)]
      rw [this, wrow_id])
  refine e.trans ?_
  simp only [Nat.reduceAdd]
  rw [lt_eq, wr_row, wrow_h, wrow_2]
  refine congrArg (fun f => some ((), wrow τ 300 f)) ?_
  funext p
  unfold emS
  by_cases e : p = 4
  · rw [upS_h e, if_pos (by omega), if_pos e]
  · rw [upS_m e, if_neg e]
theorem clear_X {σ : Mem} {A : Nat → Int32} (hB : FBq σ 43) : ∃ σ', f_Hub_clear 43 σ = some ((), σ') ∧ RH σ' 43 (emS A) ∧ FBq σ' 43 ∧ ∀ w, (w < 43 ∨ 85 ≤ w) → σ' w = σ w := by
  unfold f_Hub_clear
  simp only [lt_eq]
  generalize hσ0 : wr (wr (wr (wr (wr (wr (wr σ 43 0 0) 43 1 0) 43 2 0) 43 3 10) 43 4 0) (43 + 4) 0 0) (43 + 8) 0 0 = σ0
  have a0 : σ0 43 0 = 0 ∧ σ0 43 1 = 0 ∧ σ0 43 2 = 0 ∧ σ0 43 3 = 10 ∧ σ0 43 4 = 0 ∧ σ0 (43 + 4) 0 = 0 ∧ σ0 (43 + 8) 0 = 0 := by
    rw [← hσ0]
    refine ⟨?_, ?_, ?_, ?_, ?_, ?_, ?_⟩
    · rw [wr_m (by omega), wr_m (by omega), wr_m (by omega), wr_m (by omega), wr_m (by omega), wr_m (by omega), wr_h rfl rfl]
    · rw [wr_m (by omega), wr_m (by omega), wr_m (by omega), wr_m (by omega), wr_m (by omega), wr_h rfl rfl]
    · rw [wr_m (by omega), wr_m (by omega), wr_m (by omega), wr_m (by omega), wr_h rfl rfl]
    · rw [wr_m (by omega), wr_m (by omega), wr_m (by omega), wr_h rfl rfl]
    · rw [wr_m (by omega), wr_m (by omega), wr_h rfl rfl]
    · rw [wr_m (by omega), wr_h rfl rfl]
    · rw [wr_h rfl rfl]
  have w0 : ∀ w, w ≠ 43 → w ≠ 47 → w ≠ 51 → σ0 w = σ w := fun w h1 h2 h3 => by
    rw [← hσ0, wr_other (by omega), wr_other (by omega), wr_other h1, wr_other h1, wr_other h1, wr_other h1, wr_other h1]
  obtain ⟨σ1, e1, b1, b2⟩ := loopR (L_Hub_clear_44 43 (fun σ9 => L_Hub_clear_64 43 (fun σ14 => some ((), σ14)) FU 0 σ9)) _ 4 (fun i τ => (∀ w, w ≠ 44 → τ w = σ0 w) ∧ ∀ k, k < i → τ 44 k = 0)
    (fun n τ _ => by show (if (4 : Int32) ≤ nI 4 then _ else _) = _; rw [if_pos (by decide)])
    (fun n i τ hi hI => by
      refine ⟨wr τ 44 i 0, ?_, fun w hw => by rw [wr_other hw]; exact hI.1 w hw, fun k hk => ?_⟩
      · show (if (4 : Int32) ≤ nI i then _ else _) = _
        rw [if_neg (show ¬ (4 : Int32) ≤ nI i from nI_ge hi (by decide)), if_pos (ib_nI hi (by omega)), nI_clamp (by omega), lt_eq, ← nI_succ]
      · by_cases e : k = i
        · rw [wr_h rfl e]
        · rw [wr_m (by omega)]
          exact hI.2 k (by omega)) 4 0 FU σ0 rfl (by decide) ⟨fun _ _ => rfl, fun k hk => by omega⟩
  obtain ⟨σ2, e2, b3, b4⟩ := loopR (L_Hub_clear_64 43 (fun σ14 => some ((), σ14))) _ 8 (fun i τ => (∀ w k, (∀ j, j < 8 → w ≠ 43 + 3 + (23 + 2 * j)) ∨ k ≠ 0 → τ w k = σ1 w k) ∧ ∀ j, j < i → τ (43 + 3 + (23 + 2 * j)) 0 = 0)
    (fun n τ _ => by show (if (8 : Int32) ≤ nI 8 then _ else _) = _; rw [if_pos (by decide)])
    (fun n i τ hi hI => by
      refine ⟨wr τ (43 + 3 + (23 + 2 * i)) 0 0, ?_, fun w k hw => ?_, fun j hj => ?_⟩
      · show (if (8 : Int32) ≤ nI i then _ else _) = _
        rw [if_neg (show ¬ (8 : Int32) ≤ nI i from nI_ge hi (by decide)), clientRoom_nI hi, bd_some, oe_some, lt_eq, ← nI_succ]
      · rw [wr_m (by rcases hw with z | z; exact Or.inl (z i hi); exact Or.inr z)]
        exact hI.1 w k hw
      · by_cases e : j = i
        · rw [e, wr_h rfl rfl]
        · rw [wr_m (by omega)]
          exact hI.2 j (by omega)) 8 0 FU σ1 rfl (by decide) ⟨fun _ _ _ => rfl, fun j hj => by omega⟩
  refine ⟨σ2, (show _ = _ from e1).trans e2, ?_, fun i hi => ?_, fun w hw => ?_⟩
  · have f : ∀ k, σ2 43 k = σ0 43 k := fun k => by rw [b3 43 k (Or.inl (fun j _ => by omega)), b1 43 (by omega)]
    have hn : nS (emS A) = 0 := by
      unfold nS
      rw [em_0 (by omega) (by omega), z0T]
      rfl
    have g2 : gI (emS A) 2 = 0 := by unfold gI; rw [em_0 (by omega) (by omega), z0T]
    have g3 : gI (emS A) 3 = 0 := by unfold gI; rw [em_0 (by omega) (by omega), z0T]
    refine ⟨⟨?_, ?_, ?_, ?_, ?_, fun k hk => ?_⟩, ⟨?_, fun o ho => ?_⟩, ⟨?_, fun e p he => ?_⟩, fun i hi => ?_, fun j hj => ⟨⟨?_, fun z => ?_⟩, fun z => ?_⟩⟩
    · rw [f, a0.1, em_0 (by omega) (by omega)]
    · rw [f, a0.2.1, em_0 (by omega) (by omega)]
    · rw [f, a0.2.2.1, em_0 (by omega) (by omega)]
    · rw [f, a0.2.2.2.1, em_4]
    · rw [f, a0.2.2.2.2.1, em_0 (by omega) (by omega)]
    · rw [b3 (43 + 1) k (Or.inl (fun j _ => by omega)), em_0 (by omega) (by omega)]
      exact b2 k hk
    · rw [b3 (43 + 4) 0 (Or.inl (fun j _ => by omega)), b1 (43 + 4) (by omega), a0.2.2.2.2.2.1, em_0 (by omega) (by omega)]
    · rw [g2] at ho; omega
    · rw [b3 (43 + 8) 0 (Or.inl (fun j _ => by omega)), b1 (43 + 8) (by omega), a0.2.2.2.2.2.2, em_0 (by omega) (by omega)]
    · rw [g3] at he; omega
    · omega
    · rw [b4 j hj, em_0 (by omega) (by omega)]
    · rw [em_0 (by omega) (by omega)] at z; exact absurd z (by decide)
    · rw [em_0 (by omega) (by omega)] at z; exact absurd z (by decide)
  · rw [b3 _ 13 (Or.inr (by decide)), b1 _ (by omega), w0 _ (by omega) (by omega) (by omega)]
    exact hB i hi
  · funext k
    rw [b3 w k (Or.inl (fun j hj => by omega)), b1 w (by omega), w0 w (by omega) (by omega) (by omega)]
