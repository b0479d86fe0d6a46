/-! keywords on both sides -/
abbrev kw (c : Nat → Int32) (L b : Nat) (ws : List Int32) : Prop := tkd c L b = 1 ∧ tke c L b - tks c L b = ws.length ∧ ∀ i, i < ws.length → c (tks c L b + i) = ws.getD i 0
theorem tkd_1L {c : Nat → Int32} {L b : Nat} (h : tkd c L b ≠ 0) : tks c L b < L := by
  unfold tkd at h
  by_cases hl : tks c L b < L
  · exact hl
  · rw [if_neg hl] at h; exact absurd rfl h
theorem isw28 {σ : Mem} {c : Nat → Int32} {L s : Nat} {w : Nat} (hw : w < 6) (h : TX σ c L) (h4 : σ 297 4 = nI s) (hs : s + lenS.getD w 0 ≤ L) : ∀ (n f x : Nat), x + n = lenS.getD w 0 → n < f → (∀ i, i < x → c (s + i) = (bytS.getD w []).getD i 0) → L_Txt_isWord_28 297 w (fun σ9 => some ((1 : Int32), σ9)) f (nI x) σ = some (if ∀ i, i < lenS.getD w 0 → c (s + i) = (bytS.getD w []).getD i 0 then 1 else 0, σ) := by
  intro n
  have hL := h.2.2.1
  induction n with
  | zero =>
    intro f x hx hf ha
    obtain ⟨f, rfl⟩ : ∃ m, f = m + 1 := ⟨f - 1, by omega⟩
    unfold L_Txt_isWord_28 f_Str_length
    rw [if_pos hw, bd_some, if_pos (nI_le (by omega) (by omega)), if_pos (fun i hi => ha i (by omega))]
  | succ n ih =>
    intro f x hx hf ha
    obtain ⟨f, rfl⟩ : ∃ m, f = m + 1 := ⟨f - 1, by omega⟩
    generalize hr : some (if ∀ i, i < lenS.getD w 0 → c (s + i) = (bytS.getD w []).getD i 0 then (1 : Int32) else 0, σ) = R at ih ⊢
    unfold L_Txt_isWord_28 f_Str_length f_Str_charAt
    rw [if_pos hw, bd_some, if_neg (nI_ge (by omega) (by omega)), h4, nI_add, bd_eq (codeAt_s h (by omega)), chA, if_pos (show s + x < L by omega), if_pos hw, if_pos (ib_nI (by omega) (by omega)), bd_some, nI_clamp (by omega)]
    by_cases e : c (s + x) = (bytS.getD w []).getD x 0
    · rw [if_pos e, ← nI_succ]
      refine ih f (x + 1) (by omega) (by omega) (fun i hi => ?_)
      by_cases e2 : i = x
      · rw [e2]; exact e
      · exact ha i (by omega)
    · rw [if_neg e, ← hr, if_neg (fun z => e (z x (by omega)))]
theorem bytS_l : ∀ w, w < 6 → (bytS.getD w []).length = lenS.getD w 0 ∧ lenS.getD w 0 ≤ 6 := by decide
theorem isWord_c {σ : Mem} {c : Nat → Int32} {L b w : Nat} (hw : w < 6) (h : TX σ c L) (hH : cH σ c L (.inl b)) : f_Txt_isWord 297 w σ = some (if kw c L b (bytS.getD w []) then 1 else 0, σ) := by
  obtain ⟨h1, h2, h3, h4, h5⟩ := hH
  have hb := tke_b (c := c) h1
  have hL := h.2.2.1
  have hl := bytS_l w hw
  have h3k := tkd_3 (c := c) (L := L) (b := b)
  unfold f_Txt_isWord
  rw [h3]
  by_cases e1 : tkd c L b = 1
  · rw [if_pos (show nI (tkd c L b) = (1 : Int32) by rw [e1]; rfl)]
    unfold f_Str_length
    rw [if_pos hw, bd_some, h5, h4, pk_sub hb.1]
    by_cases e2 : tke c L b - tks c L b = lenS.getD w 0
    · rw [if_pos (congrArg nI e2)]
      refine (isw28 hw h h4 (by omega) (lenS.getD w 0) FU 0 (by omega) (by unfold FU; omega) (fun i hi => by omega)).trans ?_
      refine congrArg (fun z => some (z, σ)) ?_
      by_cases e3 : ∀ i, i < lenS.getD w 0 → c (tks c L b + i) = (bytS.getD w []).getD i 0
      · rw [if_pos e3, if_pos (show kw c L b (bytS.getD w []) from ⟨e1, by rw [hl.1]; exact e2, by rw [hl.1]; exact e3⟩)]
      · rw [if_neg e3, if_neg (fun k : kw c L b (bytS.getD w []) => e3 (by rw [← hl.1]; exact k.2.2))]
    · rw [if_neg (fun z => e2 ((nI_eq (by omega) (by omega)).mp z)), if_neg (fun k : kw c L b (bytS.getD w []) => e2 (by rw [← hl.1]; exact k.2.1))]
  · rw [if_neg (show ¬ nI (tkd c L b) = (1 : Int32) from fun z => e1 ((nI_eq (b := 1) (by omega) (by decide)).mp z)), if_neg (fun k : kw c L b (bytS.getD w []) => e1 k.1)]
theorem kw_3 {c : Nat → Int32} {L b : Nat} {p1 p2 p3 : Int32} : kw c L b [p1, p2, p3] ↔ tkd c L b = 1 ∧ tke c L b - tks c L b = 3 ∧ c (tks c L b) = p1 ∧ c (tks c L b + 1) = p2 ∧ c (tks c L b + 2) = p3 := by
  refine ⟨fun k => ⟨k.1, k.2.1, k.2.2 0 (show 0 < 3 by decide), k.2.2 1 (show 1 < 3 by decide), k.2.2 2 (show 2 < 3 by decide)⟩, fun k => ⟨k.1, k.2.1, fun i hi => ?_⟩⟩
  obtain ⟨_, _, k1, k2, k3⟩ := k
  match i, hi with
  | 0, _ => exact k1
  | 1, _ => exact k2
  | 2, _ => exact k3
  | n + 3, hi => exact absurd hi (by simp)
theorem kw_4 {c : Nat → Int32} {L b : Nat} {p1 p2 p3 p4 : Int32} : kw c L b [p1, p2, p3, p4] ↔ tkd c L b = 1 ∧ tke c L b - tks c L b = 4 ∧ c (tks c L b) = p1 ∧ c (tks c L b + 1) = p2 ∧ c (tks c L b + 2) = p3 ∧ c (tks c L b + 3) = p4 := by
  refine ⟨fun k => ⟨k.1, k.2.1, k.2.2 0 (show 0 < 4 by decide), k.2.2 1 (show 1 < 4 by decide), k.2.2 2 (show 2 < 4 by decide), k.2.2 3 (show 3 < 4 by decide)⟩, fun k => ⟨k.1, k.2.1, fun i hi => ?_⟩⟩
  obtain ⟨_, _, k1, k2, k3, k4⟩ := k
  match i, hi with
  | 0, _ => exact k1
  | 1, _ => exact k2
  | 2, _ => exact k3
  | 3, _ => exact k4
  | n + 4, hi => exact absurd hi (by simp)
theorem kw_6 {c : Nat → Int32} {L b : Nat} {p1 p2 p3 p4 p5 p6 : Int32} : kw c L b [p1, p2, p3, p4, p5, p6] ↔ tkd c L b = 1 ∧ tke c L b - tks c L b = 6 ∧ c (tks c L b) = p1 ∧ c (tks c L b + 1) = p2 ∧ c (tks c L b + 2) = p3 ∧ c (tks c L b + 3) = p4 ∧ c (tks c L b + 4) = p5 ∧ c (tks c L b + 5) = p6 := by
  refine ⟨fun k => ⟨k.1, k.2.1, k.2.2 0 (show 0 < 6 by decide), k.2.2 1 (show 1 < 6 by decide), k.2.2 2 (show 2 < 6 by decide), k.2.2 3 (show 3 < 6 by decide), k.2.2 4 (show 4 < 6 by decide), k.2.2 5 (show 5 < 6 by decide)⟩, fun k => ⟨k.1, k.2.1, fun i hi => ?_⟩⟩
  obtain ⟨_, _, k1, k2, k3, k4, k5, k6⟩ := k
  match i, hi with
  | 0, _ => exact k1
  | 1, _ => exact k2
  | 2, _ => exact k3
  | 3, _ => exact k4
  | 4, _ => exact k5
  | 5, _ => exact k6
  | n + 6, hi => exact absurd hi (by simp)
theorem rk_0 {k : Nat} (h : k ≤ 3) : rk k = 0 ↔ k = 1 := by
  match k, h with
  | 0, _ => decide
  | 1, _ => decide
  | 2, _ => decide
  | 3, _ => decide
theorem rk_1 {k : Nat} (h : k ≤ 3) : rk k = 1 ↔ k = 2 := by
  match k, h with
  | 0, _ => decide
  | 1, _ => decide
  | 2, _ => decide
  | 3, _ => decide
theorem rk_2 {k : Nat} (h : k ≤ 3) : rk k = 2 ↔ k = 3 := by
  match k, h with
  | 0, _ => decide
  | 1, _ => decide
  | 2, _ => decide
  | 3, _ => decide
theorem rk_3 {k : Nat} (h : k ≤ 3) : rk k = 3 ↔ k = 0 := by
  match k, h with
  | 0, _ => decide
  | 1, _ => decide
  | 2, _ => decide
  | 3, _ => decide
theorem codR {τ : Mem} {c : Nat → Int32} {L p : Nat} (h : TM τ c L) (hp : p < L) : τ (299 + 3) (nI p).toNatClampNeg = c p := by
  rw [nI_clamp (by have := h.2.2.1; omega)]
  exact h.2.1 p hp
theorem isWord_m {τ : Mem} {c : Nat → Int32} {L b : Nat} {p1 p2 p3 : Int32} (h : TM τ c L) (hH : rH τ c L (.inl b)) : f_M_isWord 299 p1 p2 p3 τ = some (if kw c L b [p1, p2, p3] then 1 else 0, τ) := by
  obtain ⟨h1, h2, h3, h4, h5, h6⟩ := hH
  have hb := tke_b (c := c) h1
  have hL := h.2.2.1
  have h3k := tkd_3 (c := c) (L := L) (b := b)
  unfold f_M_isWord
  rw [h3]
  have no : ¬ kw c L b [p1, p2, p3] → some ((0 : Int32), τ) = some (if kw c L b [p1, p2, p3] then 1 else 0, τ) := fun hn => by rw [if_neg hn]
  by_cases e1 : tkd c L b = 1
  · rw [if_pos ((rk_0 h3k).mpr e1), h5, h4, pk_sub hb.1]
    by_cases e2 : tke c L b - tks c L b = 3
    · rw [if_pos (show nI (tke c L b - tks c L b) = (3 : Int32) by rw [e2]; rfl), if_pos (ib_nI (by omega) (by decide)), codR h (by omega)]
      by_cases k1 : c (tks c L b) = p1
      · rw [if_pos k1, show nI (tks c L b) + 1 = nI (tks c L b + 1) from nI_add _ 1, if_pos (ib_nI (by omega) (by decide)), codR h (by omega)]
        by_cases k2 : c (tks c L b + 1) = p2
        · rw [if_pos k2, show nI (tks c L b) + 2 = nI (tks c L b + 2) from nI_add _ 2, if_pos (ib_nI (by omega) (by decide)), codR h (by omega)]
          by_cases k3 : c (tks c L b + 2) = p3
          · rw [if_pos k3, if_pos (kw_3.mpr ⟨e1, e2, k1, k2, k3⟩)]
          · rw [if_neg k3]; exact no (fun k => k3 (kw_3.mp k).2.2.2.2)
        · rw [if_neg k2]; exact no (fun k => k2 (kw_3.mp k).2.2.2.1)
      · rw [if_neg k1]; exact no (fun k => k1 (kw_3.mp k).2.2.1)
    · rw [if_neg (show ¬ nI (tke c L b - tks c L b) = (3 : Int32) from fun z => e2 ((nI_eq (b := 3) (by omega) (by decide)).mp z))]; exact no (fun k => e2 (kw_3.mp k).2.1)
  · rw [if_neg (fun z => e1 ((rk_0 h3k).mp z))]; exact no (fun k => e1 (kw_3.mp k).1)
theorem isLong4_m {τ : Mem} {c : Nat → Int32} {L b : Nat} {p1 p2 p3 p4 : Int32} (h : TM τ c L) (hH : rH τ c L (.inl b)) : f_M_isLong 299 p1 p2 p3 p4 0 0 τ = some (if kw c L b [p1, p2, p3, p4] then 1 else 0, τ) := by
  obtain ⟨h1, h2, h3, h4, h5, h6⟩ := hH
  have hb := tke_b (c := c) h1
  have hL := h.2.2.1
  have h3k := tkd_3 (c := c) (L := L) (b := b)
  unfold f_M_isLong
  rw [h3, if_pos (show (0 : Int32) ≤ 0 by decide)]
  have no : ¬ kw c L b [p1, p2, p3, p4] → some ((0 : Int32), τ) = some (if kw c L b [p1, p2, p3, p4] then 1 else 0, τ) := fun hn => by rw [if_neg hn]
  by_cases e1 : tkd c L b = 1
  · have hsl := tkd_1L (c := c) (L := L) (b := b) (by omega)
    rw [if_pos ((rk_0 h3k).mpr e1), h5, h4, pk_sub hb.1, if_pos (ib_nI (by omega) (by decide)), codR h hsl]
    by_cases k1 : c (tks c L b) = p1
    · rw [if_pos k1]
      by_cases e2 : tke c L b - tks c L b ≤ 3
      · rw [if_pos (show nI (tke c L b - tks c L b) ≤ (3 : Int32) from nI_le (b := 3) e2 (by decide))]
        exact no (fun k => by have := (kw_4.mp k).2.1; omega)
      rw [if_neg (show ¬ nI (tke c L b - tks c L b) ≤ (3 : Int32) from nI_ge (a := 3) (by omega) (by omega)), show nI (tks c L b) + 1 = nI (tks c L b + 1) from nI_add _ 1, if_pos (ib_nI (by omega) (by decide)), codR h (by omega)]
      by_cases k2 : c (tks c L b + 1) = p2
      · rw [if_pos k2, show nI (tks c L b) + 2 = nI (tks c L b + 2) from nI_add _ 2, if_pos (ib_nI (by omega) (by decide)), codR h (by omega)]
        by_cases k3 : c (tks c L b + 2) = p3
        · rw [if_pos k3, show nI (tks c L b) + 3 = nI (tks c L b + 3) from nI_add _ 3, if_pos (ib_nI (by omega) (by decide)), codR h (by omega)]
          by_cases k4 : c (tks c L b + 3) = p4
          · rw [if_pos k4]
            by_cases e4 : tke c L b - tks c L b = 4
            · rw [if_pos (show nI (tke c L b - tks c L b) = (4 : Int32) by rw [e4]; rfl), if_pos rfl, if_pos (kw_4.mpr ⟨e1, e4, k1, k2, k3, k4⟩)]
            · rw [if_neg (show ¬ nI (tke c L b - tks c L b) = (4 : Int32) from fun z => e4 ((nI_eq (b := 4) (by omega) (by decide)).mp z))]
              exact no (fun k => e4 (kw_4.mp k).2.1)
          · rw [if_neg k4]; exact no (fun k => k4 (kw_4.mp k).2.2.2.2.2)
        · rw [if_neg k3]; exact no (fun k => k3 (kw_4.mp k).2.2.2.2.1)
      · rw [if_neg k2]; exact no (fun k => k2 (kw_4.mp k).2.2.2.1)
    · rw [if_neg k1]; exact no (fun k => k1 (kw_4.mp k).2.2.1)
  · rw [if_neg (fun z => e1 ((rk_0 h3k).mp z))]; exact no (fun k => e1 (kw_4.mp k).1)
theorem isLong6_m {τ : Mem} {c : Nat → Int32} {L b : Nat} {p1 p2 p3 p4 p5 p6 : Int32} (hp : ¬ p6 ≤ 0) (hp2 : ¬ p6 = 0) (h : TM τ c L) (hH : rH τ c L (.inl b)) : f_M_isLong 299 p1 p2 p3 p4 p5 p6 τ = some (if kw c L b [p1, p2, p3, p4, p5, p6] then 1 else 0, τ) := by
  obtain ⟨h1, h2, h3, h4, h5, h6⟩ := hH
  have hb := tke_b (c := c) h1
  have hL := h.2.2.1
  have h3k := tkd_3 (c := c) (L := L) (b := b)
  unfold f_M_isLong
  rw [h3, if_neg hp]
  have no : ¬ kw c L b [p1, p2, p3, p4, p5, p6] → some ((0 : Int32), τ) = some (if kw c L b [p1, p2, p3, p4, p5, p6] then 1 else 0, τ) := fun hn => by rw [if_neg hn]
  by_cases e1 : tkd c L b = 1
  · have hsl := tkd_1L (c := c) (L := L) (b := b) (by omega)
    rw [if_pos ((rk_0 h3k).mpr e1), h5, h4, pk_sub hb.1, if_pos (ib_nI (by omega) (by decide)), codR h hsl]
    by_cases k1 : c (tks c L b) = p1
    · rw [if_pos k1]
      by_cases e2 : tke c L b - tks c L b ≤ 3
      · rw [if_pos (show nI (tke c L b - tks c L b) ≤ (3 : Int32) from nI_le (b := 3) e2 (by decide))]
        exact no (fun k => by have := (kw_6.mp k).2.1; omega)
      rw [if_neg (show ¬ nI (tke c L b - tks c L b) ≤ (3 : Int32) from nI_ge (a := 3) (by omega) (by omega)), show nI (tks c L b) + 1 = nI (tks c L b + 1) from nI_add _ 1, if_pos (ib_nI (by omega) (by decide)), codR h (by omega)]
      by_cases k2 : c (tks c L b + 1) = p2
      · rw [if_pos k2, show nI (tks c L b) + 2 = nI (tks c L b + 2) from nI_add _ 2, if_pos (ib_nI (by omega) (by decide)), codR h (by omega)]
        by_cases k3 : c (tks c L b + 2) = p3
        · rw [if_pos k3, show nI (tks c L b) + 3 = nI (tks c L b + 3) from nI_add _ 3, if_pos (ib_nI (by omega) (by decide)), codR h (by omega)]
          by_cases k4 : c (tks c L b + 3) = p4
          · rw [if_pos k4]
            by_cases e4 : tke c L b - tks c L b = 6
            · rw [if_pos (show nI (tke c L b - tks c L b) = (6 : Int32) by rw [e4]; rfl), if_neg hp2, show nI (tks c L b) + 4 = nI (tks c L b + 4) from nI_add _ 4, if_pos (ib_nI (by omega) (by decide)), codR h (by omega)]
              by_cases k5 : c (tks c L b + 4) = p5
              · rw [if_pos k5, show nI (tks c L b) + 5 = nI (tks c L b + 5) from nI_add _ 5, if_pos (ib_nI (by omega) (by decide)), codR h (by omega)]
                by_cases k6 : c (tks c L b + 5) = p6
                · rw [if_pos k6, if_pos (kw_6.mpr ⟨e1, e4, k1, k2, k3, k4, k5, k6⟩)]
                · rw [if_neg k6]; exact no (fun k => k6 (kw_6.mp k).2.2.2.2.2.2.2)
              · rw [if_neg k5]; exact no (fun k => k5 (kw_6.mp k).2.2.2.2.2.2.1)
            · rw [if_neg (show ¬ nI (tke c L b - tks c L b) = (6 : Int32) from fun z => e4 ((nI_eq (b := 6) (by omega) (by decide)).mp z))]
              exact no (fun k => e4 (kw_6.mp k).2.1)
          · rw [if_neg k4]; exact no (fun k => k4 (kw_6.mp k).2.2.2.2.2.1)
        · rw [if_neg k3]; exact no (fun k => k3 (kw_6.mp k).2.2.2.2.1)
      · rw [if_neg k2]; exact no (fun k => k2 (kw_6.mp k).2.2.2.1)
    · rw [if_neg k1]; exact no (fun k => k1 (kw_6.mp k).2.2.1)
  · rw [if_neg (fun z => e1 ((rk_0 h3k).mp z))]; exact no (fun k => e1 (kw_6.mp k).1)
