/-! a wake on the class's side; what holds of the row behind it -/
theorem RC_cong {a r S S' : Nat → Int32} {j : Nat} (h : ∀ p, 163 + 27 * j ≤ p → p < 190 + 27 * j → S' p = S p) (hR : RC a r S j) : RC a r S' j := by
  unfold RC gI at hR ⊢
  rw [h (163 + 27 * j) (by omega) (by omega), h (164 + 27 * j) (by omega) (by omega), h (165 + 27 * j) (by omega) (by omega), h (166 + 27 * j) (by omega) (by omega), h (167 + 27 * j) (by omega) (by omega), h (168 + 27 * j) (by omega) (by omega), h (169 + 27 * j) (by omega) (by omega), h (170 + 27 * j) (by omega) (by omega), h (171 + 27 * j) (by omega) (by omega)]
  refine ⟨hR.1, fun h1 => ⟨(hR.2 h1).1, fun d p hd hdD hp => ?_⟩⟩
  rw [h (172 + 27 * j + 3 * d + p) (by omega) (by omega)]
  exact (hR.2 h1).2 d p hd hdD hp
theorem WP_cong {S S' : Nat → Int32} {i : Nat} (h : ∀ p, 11 + 19 * i ≤ p → p < 18 + 19 * i → S' p = S p) (hW : WP S i) : WP S' i := by
  unfold WP gI at hW ⊢
  rw [h (11 + 19 * i) (by omega) (by omega), h (12 + 19 * i) (by omega) (by omega), h (13 + 19 * i) (by omega) (by omega), h (14 + 19 * i) (by omega) (by omega), h (15 + 19 * i) (by omega) (by omega), h (16 + 19 * i) (by omega) (by omega), h (17 + 19 * i) (by omega) (by omega)]
  exact hW
theorem WR_cong {S S' : Nat → Int32} {i : Nat} {t : Int} (h0 : S' 0 = S 0) (h : ∀ p, 11 + 19 * i ≤ p → p < 30 + 19 * i → S' p = S p) (hW : WR S i t) : WR S' i t := by
  unfold WR gI at hW ⊢
  rw [h0, h (11 + 19 * i) (by omega) (by omega), h (18 + 19 * i) (by omega) (by omega), h (19 + 19 * i) (by omega) (by omega), h (20 + 19 * i) (by omega) (by omega), h (21 + 19 * i) (by omega) (by omega)]
  refine ⟨hW.1, hW.2.1, hW.2.2.1, hW.2.2.2.1, fun r hr hg => ?_, hW.2.2.2.2.2⟩
  rw [h (22 + 19 * i + r) (by omega) (by omega)]
  exact hW.2.2.2.2.1 r hr hg
theorem RR_cong {a r S S' : Nat → Int32} {i : Nat} (h : ∀ p, 18 + 19 * i ≤ p → p < 30 + 19 * i → S' p = S p) (hR : RR a r S i) : RR a r S' i := by
  unfold RR gI at hR ⊢
  rw [h (18 + 19 * i) (by omega) (by omega), h (19 + 19 * i) (by omega) (by omega), h (20 + 19 * i) (by omega) (by omega), h (21 + 19 * i) (by omega) (by omega)]
  refine ⟨hR.1, hR.2.1, hR.2.2.1, fun k hk hg => ?_⟩
  rw [h (22 + 19 * i + k) (by omega) (by omega)]
  exact hR.2.2.2 k hk hg
/-- of a client's row: how much was delivered, the greatest age -/
def WA (S : Nat → Int32) (j : Nat) (B : Int) : Prop := S (163 + 27 * j) = 1 → (0 ≤ gI S (168 + 27 * j) ∧ gI S (168 + 27 * j) ≤ B) ∧ 0 ≤ gI S (170 + 27 * j) ∧ (S (168 + 27 * j) = 0 → S (170 + 27 * j) = 0)
theorem age_nn {S : Nat → Int32} {st : Int32} (h0 : 0 ≤ gI S 0 ∧ gI S 0 ≤ 10499) (hs : 0 ≤ st.toInt ∧ st.toInt ≤ 5000000) : 0 ≤ (ageS S st).toInt := by
  unfold gI at h0
  unfold ageS
  have es : (S 0 - st).toInt = (S 0).toInt - st.toInt := tS (by omega) (by omega)
  split
  · rw [z0T]; omega
  · rename_i hc
    rw [Int32.le_iff_toInt_le] at hc
    omega
theorem dlvS_5 {S : Nat → Int32} {c p : Nat} {st v : Int32} (hp : p = 168 + 27 * c) : dlvS S c st v p = S p + 1 := by
  unfold dlvS
  simp (disch := omega) only [upS_m, shS_m]
  rw [upS_h (by omega), show 163 + 27 * c + 5 = p by omega]
theorem dlvS_7 {S : Nat → Int32} {c p : Nat} {st v : Int32} (hp : p = 170 + 27 * c) : dlvS S c st v p = if S p ≤ ageS S st then ageS S st else S p := by
  unfold dlvS
  simp (disch := omega) only [upS_m, shS_m]
  rw [upS_h (by omega), show 163 + 27 * c + 7 = p by omega]
theorem dlv_WA {S : Nat → Int32} {c j : Nat} {st v : Int32} {B : Int} (hB : B ≤ 1000000) (h0 : 0 ≤ gI S 0 ∧ gI S 0 ≤ 10499) (hs : 0 ≤ st.toInt ∧ st.toInt ≤ 5000000) (h : WA S j B) : WA (dlvS S c st v) j (B + 1) := by
  intro h1
  by_cases e : c = j
  · subst e
    rw [dlvS_m (by omega)] at h1
    have hn := age_nn h0 hs
    have h2 := h h1
    unfold gI at h2 ⊢
    rw [dlvS_5 rfl, dlvS_7 rfl]
    have z1 : (1 : Int32).toInt = 1 := by decide
    have e5 : (S (168 + 27 * c) + 1).toInt = (S (168 + 27 * c)).toInt + 1 := by
      rw [tA (by rw [z1]; omega) (by rw [z1]; omega), z1]
    rw [e5]
    refine ⟨by omega, ?_, fun hz => ?_⟩
    · split
      · exact hn
      · exact h2.2.1
    · rw [tE, e5, z0T] at hz
      omega
  · rw [dlvS_m (by omega)] at h1
    have h2 := h h1
    unfold gI at h2 ⊢
    rw [dlvS_m (by omega), dlvS_m (by omega)]
    exact ⟨by omega, h2.2⟩
theorem dlvN_cf {S : Nat → Int32} {p : Nat} (hp : cfP p ∨ ∃ j, j < 8 ∧ 163 + 27 * j ≤ p ∧ p < 168 + 27 * j) : ∀ N, (∀ e, e < N → 0 ≤ gI S (391 + 3 * e) ∧ gI S (391 + 3 * e) < 8) → dlvN S N p = S p := by
  intro N
  induction N with
  | zero => intro _; rfl
  | succ N ih =>
    intro h
    have hE := h N (by omega)
    show dlvS (dlvN S N) _ _ _ p = _
    rw [dlvS_m, ih (fun e he => h e (by omega))]
    unfold gI at hE
    rcases hp with (h | h | h) | ⟨j, h⟩ <;> omega
theorem dlvN_WA {S : Nat → Int32} {tS tC : Nat → Int} {b : Int} (hW : WX S tS tC b) (hb : b ≤ 100000) {j : Nat} (hj : j < 8) : ∀ e : Nat, (e : Int) ≤ gI S 3 → WA (dlvN S e) j (gI S (168 + 27 * j) + e) := by
  intro e
  have h3 := hW.1.2.2.2.2.1
  induction e with
  | zero =>
    intro _ h1
    have h1 : S (163 + 27 * j) = 1 := h1
    rcases hW.2.2.1 j hj with h2 | h2
    · rw [h2] at h1
      exact absurd h1 (by decide)
    · obtain ⟨_, _, _, _, _, d1, d2, _⟩ := h2
      refine ⟨?_, d2⟩
      show 0 ≤ gI S _ ∧ gI S _ ≤ _
      omega
  | succ e ih =>
    intro he
    have hE := hW.2.2.2 e (by omega)
    have hcl : ∀ x, x < e → gI S (391 + 3 * x) < 8 := fun x hx => (hW.2.2.2 x (by omega)).1.2
    have e0 : gI (dlvN S e) 0 = gI S 0 := by
      unfold gI
      rw [dlvN_m (Or.inl (by omega)) e hcl]
    have hB : gI S (168 + 27 * j) + e ≤ 1000000 ∨ S (163 + 27 * j) ≠ 1 := by
      rcases hW.2.2.1 j hj with h2 | h2
      · right
        rw [h2]
        decide
      · left
        have := h2.2.2.2.2.2.1
        omega
    rcases hB with hB | hB
    · have := dlv_WA (c := (S (391 + 3 * e)).toInt.toNat) (st := S (391 + 3 * e + 1)) (v := S (391 + 3 * e + 2)) hB (by rw [e0]; exact hW.1.1) (by
        have := hE.2.2
        unfold gI at this
        rw [show 391 + 3 * e + 1 = 392 + 3 * e by omega]
        exact this) (ih (by omega))
      rw [show ((e + 1 : Nat) : Int) = (e : Int) + 1 by omega, ← Int.add_assoc]
      exact this
    · intro h1
      rw [dlvN_cf (p := 163 + 27 * j) (Or.inr ⟨j, hj, by omega, by omega⟩) (e + 1) (fun x hx => (hW.2.2.2 x (by omega)).1)] at h1
      exact absurd h1 hB
theorem wakeS_m {S : Nat → Int32} {tS tC : Nat → Int} {b : Int} (hW : WX S tS tC b) {c p : Nat} (hc : c < 4) (hp : p ≠ 3 ∧ p ≠ 5 ∧ p ≠ 7 + c) (hp2 : p < 168 ∨ 379 ≤ p) : wakeS S c p = S p := by
  unfold wakeS
  split
  · rfl
  · have h3 := hW.1.2.2.2.2.1
    unfold gI at h3
    simp (disch := omega) only [upS_m]
    exact dlvN_m hp2 _ (fun e he => (hW.2.2.2 e (by unfold gI; omega)).1.2)
theorem wake_cfE {S : Nat → Int32} {tS tC : Nat → Int} {b : Int} (hW : WX S tS tC b) {c : Nat} (hc : c < 4) : cfE S (wakeS S c) := by
  intro p hp
  have h3 := hW.1.2.2.2.2.1
  unfold gI at h3
  have hN : ∀ N : Nat, (N : Int) ≤ (S 3).toInt → dlvN S N p = S p := fun N hN => dlvN_cf (Or.inl hp) N (fun e he => (hW.2.2.2 e (by unfold gI; omega)).1)
  unfold wakeS
  split
  · rfl
  · rw [upS_m (by rcases hp with h | h | h <;> omega), upS_m (by rcases hp with h | h | h <;> omega), upS_m (by rcases hp with h | h | h <;> omega)]
    exact hN _ (by omega)
theorem wake_WX {S : Nat → Int32} {tS tC : Nat → Int} {b : Int} (hW : WX S tS tC b) (hb : b ≤ 100000) {c : Nat} (hc : c < 4) : WX (wakeS S c) tS tC b := by
  by_cases h0 : S 3 = 0
  · unfold wakeS
    rw [if_pos h0]
    exact hW
  · have hm : ∀ p, p ≠ 3 ∧ p ≠ 5 ∧ p ≠ 7 + c → (p < 168 ∨ 379 ≤ p) → wakeS S c p = S p := fun p h1 h2 => wakeS_m hW hc h1 h2
    have hcf := wake_cfE hW hc
    have h3 := hW.1.2.2.2.2.1
    have hpos : 1 ≤ gI S 3 := by
      have : gI S 3 ≠ 0 := fun e => h0 (by rw [tE, z0T]; exact e)
      omega
    have e3 : wakeS S c 3 = 0 := by
      unfold wakeS
      rw [if_neg h0]
      simp (disch := omega) only [upS_m]
      exact upS_h rfl
    have g3 : gI (wakeS S c) 3 = 0 := by
      unfold gI
      rw [e3, z0T]
    have g7 : gI (wakeS S c) (7 + c) = gI S (7 + c) + 1 := by
      unfold gI wakeS
      rw [if_neg h0, upS_h rfl, dlvN_m (j := 7 + c) (Or.inl (by omega)) _ (fun e he => (hW.2.2.2 e (by unfold gI at h3 ⊢; omega)).1.2)]
      have z1 : (1 : Int32).toInt = 1 := by decide
      have hs := hW.1.2.2.2.2.2.2
      unfold gI at hs
      have hr : 0 ≤ (S (7 + c)).toInt ∧ (S (7 + c)).toInt ≤ 100000 := by
        unfold gI at h3
        rcases (by omega : c = 0 ∨ c = 1 ∨ c = 2 ∨ c = 3) with rfl | rfl | rfl | rfl <;> simp only [Nat.reduceAdd] at * <;> omega
      rw [tA (by rw [z1]; omega) (by rw [z1]; omega), z1]
    have gm : ∀ p, p ≠ 3 ∧ p ≠ 5 ∧ p ≠ 7 + c → (p < 168 ∨ 379 ≤ p) → gI (wakeS S c) p = gI S p := fun p h1 h2 => congrArg Int32.toInt (hm p h1 h2)
    refine ⟨⟨?_, ?_, ?_, ?_, ?_, ?_, ?_⟩, fun i hi => ?_, fun j hj => ?_, fun e he => ?_⟩
    · rw [gm 0 (by omega) (by omega)]; exact hW.1.1
    · rw [gm 0 (by omega) (by omega), gm 6 (by omega) (by omega)]; exact hW.1.2.1
    · rw [gm 1 (by omega) (by omega)]; exact hW.1.2.2.1
    · rw [gm 2 (by omega) (by omega)]; exact hW.1.2.2.2.1
    · rw [g3]; omega
    · rw [gm 4 (by omega) (by omega)]; exact hW.1.2.2.2.2.2.1
    · have hs := hW.1.2.2.2.2.2.2
      rw [g3]
      rcases (by omega : c = 0 ∨ c = 1 ∨ c = 2 ∨ c = 3) with rfl | rfl | rfl | rfl
      · rw [show gI (wakeS S 0) 7 = gI S 7 + 1 from g7, gm 8 (by omega) (by omega), gm 9 (by omega) (by omega), gm 10 (by omega) (by omega)]
        omega
      · rw [show gI (wakeS S 1) 8 = gI S 8 + 1 from g7, gm 7 (by omega) (by omega), gm 9 (by omega) (by omega), gm 10 (by omega) (by omega)]
        omega
      · rw [show gI (wakeS S 2) 9 = gI S 9 + 1 from g7, gm 8 (by omega) (by omega), gm 7 (by omega) (by omega), gm 10 (by omega) (by omega)]
        omega
      · rw [show gI (wakeS S 3) 10 = gI S 10 + 1 from g7, gm 8 (by omega) (by omega), gm 9 (by omega) (by omega), gm 7 (by omega) (by omega)]
        omega
    · rw [cfE_n hcf] at hi
      have h8 := nS_le hW.1
      obtain ⟨h1, h2⟩ := hW.2.1 i hi
      exact ⟨WP_cong (fun p _ _ => hm p (by omega) (by omega)) h1, WR_cong (hm 0 (by omega) (by omega)) (fun p _ _ => hm p (by omega) (by omega)) h2⟩
    · have hcc : ∀ p k, k < 3 → p = 163 + 27 * j + k → wakeS S c p = S p := fun p k hk hp => cf_c hcf hj hk hp
      rcases hW.2.2.1 j hj with h | h
      · left
        rw [hcc (163 + 27 * j) 0 (by omega) (by omega)]
        exact h
      · right
        obtain ⟨d0, d1, d2, d3, d4, d5, d6, d7⟩ := h
        have hA := dlvN_WA hW hb hj (S 3).toInt.toNat (by unfold gI at h3 ⊢; omega)
        have eT : ∀ p, 163 + 27 * j ≤ p → p < 190 + 27 * j → wakeS S c p = dlvN S (S 3).toInt.toNat p := fun p h1 h2 => by
          unfold wakeS
          rw [if_neg h0, upS_m (by omega), upS_m (by omega), upS_m (by omega)]
        have hA2 := hA (by rw [← eT _ (by omega) (by omega), hcc (163 + 27 * j) 0 (by omega) (by omega)]; exact d0)
        have hnn : 0 ≤ gI S 3 := by omega
        unfold gI at hA2 d1 d2 d3 d4 d5 hnn ⊢
        rw [hcc (163 + 27 * j) 0 (by omega) (by omega), hcc (164 + 27 * j) 1 (by omega) (by omega), hcc (165 + 27 * j) 2 (by omega) (by omega), eT (166 + 27 * j) (by omega) (by omega), eT (167 + 27 * j) (by omega) (by omega), eT (168 + 27 * j) (by omega) (by omega), eT (170 + 27 * j) (by omega) (by omega), e3, z0T, hm 1 (by omega) (by omega), lst_c hcf (CW_of hW) (WX_cl hW j hj d0)]
        have hdl : ∀ N : Nat, (N : Int) ≤ (S 3).toInt → dlvN S N (166 + 27 * j) = S (166 + 27 * j) ∧ dlvN S N (167 + 27 * j) = S (167 + 27 * j) := fun N hN => ⟨dlvN_cf (Or.inr ⟨j, hj, by omega, by omega⟩) N (fun e he => (hW.2.2.2 e (by unfold gI; omega)).1), dlvN_cf (Or.inr ⟨j, hj, by omega, by omega⟩) N (fun e he => (hW.2.2.2 e (by unfold gI; omega)).1)⟩
        have hdl2 := hdl (S 3).toInt.toNat (by omega)
        rw [hdl2.1, hdl2.2]
        exact ⟨d0, d1, d2, d3, d4, ⟨hA2.1.1, by omega⟩, hA2.2, d7⟩
    · rw [g3] at he
      omega
