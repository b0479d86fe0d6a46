/-! load -/
theorem load_a {τ : Mem} {y : Int32} {K : Mem → Option (Int32 × Mem)} : L_M_load_83 299 y K FU 0 τ = K (wrow τ 301 (fun p => if p < 1924 then τ 301 (p + 481) else τ 301 p)) := by
  obtain ⟨σ', e, rfl⟩ := loopR (L_M_load_83 299 y K) K 1924 (fun i σ => σ = wrow τ 301 (fun p => if p < i then τ 301 (p + 481) else τ 301 p))
    (fun n σ _ => by show (if (1924 : Int32) ≤ nI 1924 then _ else _) = _; rw [if_pos (by decide)])
    (fun n i σ hi hI => by
      subst hI
      refine ⟨_, ?_, rfl⟩
      show (if (1924 : Int32) ≤ nI i then _ else _) = _
      rw [if_neg (show ¬ (1924 : Int32) ≤ nI i from nI_ge hi (by decide)), show nI i + 481 = nI (i + 481) from nI_add i 481, if_pos (ib_nI (by omega) (by decide)), if_pos (ib_nI (by omega) (by decide)), lt_eq, nI_clamp (by omega), nI_clamp (by omega), ← nI_succ]
      simp only [Nat.reduceAdd]
      rw [wr_row, wrow_h, wrow_2, if_neg (by omega)]
      refine congrArg (fun f => L_M_load_83 299 y K n (nI (i + 1)) (wrow τ 301 f)) ?_
      funext p
      by_cases e : p = i
      · rw [upS_h e, if_pos (by omega), e]
      · rw [upS_m e]
        by_cases h : p < i
        · rw [if_pos h, if_pos (by omega)]
        · rw [if_neg h, if_neg (by omega)]) 1924 0 FU τ rfl (by decide) (by
      show τ = wrow τ 301 (fun p => if p < 0 then τ 301 (p + 481) else τ 301 p)
      have : (fun p => if p < 0 then τ 301 (p + 481) else τ 301 p) = τ 301 := by
        funext p
        rw [if_neg (by omega)]
      rw [this, wrow_id])
  exact e
theorem load_b {τ : Mem} {y : Int32} {K : Mem → Option (Int32 × Mem)} {N : Nat} (hN : N ≤ 4) (h3 : τ 299 3 = nI N) : L_M_load_124 299 y K FU 0 τ = K (wrow τ 301 (fun p => if 481 * N ≤ p ∧ p < 481 * N + 481 then τ 303 (p - 481 * N) else τ 301 p)) := by
  obtain ⟨σ', e, rfl⟩ := loopR (L_M_load_124 299 y K) K 481 (fun i σ => σ = wrow τ 301 (fun p => if 481 * N ≤ p ∧ p < 481 * N + i then τ 303 (p - 481 * N) else τ 301 p))
    (fun n σ _ => by show (if (481 : Int32) ≤ nI 481 then _ else _) = _; rw [if_pos (by decide)])
    (fun n i σ hi hI => by
      subst hI
      refine ⟨_, ?_, rfl⟩
      have e9 : (481 : Int32) * nI N + nI i = nI (481 * N + i) := by
        rw [nI_Lm, nI_add]
      show (if (481 : Int32) ≤ nI i then _ else _) = _
      rw [if_neg (show ¬ (481 : Int32) ≤ nI i from nI_ge hi (by decide)), if_pos (ib_nI (by omega) (by decide)), wrow_m (v := 301) (b := 299) (by decide), h3, e9, if_pos (ib_nI (by omega) (by decide)), lt_eq, nI_clamp (by omega), nI_clamp (by omega), ← nI_succ]
      simp only [Nat.reduceAdd]
      rw [wr_row, wrow_h, wrow_2, wrow_m (v := 301) (b := 303) (by decide)]
      refine congrArg (fun f => L_M_load_124 299 y K n (nI (i + 1)) (wrow τ 301 f)) ?_
      funext p
      by_cases e : p = 481 * N + i
      · rw [upS_h e, if_pos (by omega), e, show 481 * N + i - 481 * N = i by omega]
      · rw [upS_m e]
        by_cases h : 481 * N ≤ p ∧ p < 481 * N + i
        · rw [if_pos h, if_pos (by omega)]
        · rw [if_neg h, if_neg (by omega)]) 481 0 FU τ rfl (by decide) (by
      show τ = wrow τ 301 (fun p => if 481 * N ≤ p ∧ p < 481 * N + 0 then τ 303 (p - 481 * N) else τ 301 p)
      have : (fun p => if 481 * N ≤ p ∧ p < 481 * N + 0 then τ 303 (p - 481 * N) else τ 301 p) = τ 301 := by
        funext p
        rw [if_neg (by omega)]
      rw [this, wrow_id])
  exact e
def ldK (q : Nat) (z12 : Int32) (σ13 : Mem) : Option (Int32 × Mem) :=
  if (σ13 q 15) = 0 then
    if (σ13 q 3) = (5 : Int32) then
      L_M_load_83 q z12 (fun σ15 =>
        lt (wr σ15 q 3 ((σ15 q 3) - (1 : Int32))) fun σ16 =>
        L_M_load_124 q z12 (fun σ18 =>
          lt (wr σ18 q 3 ((σ18 q 3) + (1 : Int32))) fun σ19 =>
          lt (wr σ19 q 5 (0 : Int32)) fun σ20 =>
          some (z12, σ20)) FU (0 : Int32) σ16) FU (0 : Int32) σ13
    else
      L_M_load_124 q z12 (fun σ21 =>
        lt (wr σ21 q 3 ((σ21 q 3) + (1 : Int32))) fun σ22 =>
        lt (wr σ22 q 5 (0 : Int32)) fun σ23 =>
        some (z12, σ23)) FU (0 : Int32) σ13
  else
    bd (f_M_release q σ13) fun _ σ25 =>
    some ((-10 : Int32) - (σ25 q 12), σ25)
theorem load_e {q : Nat} {σ : Mem} : f_M_load q σ = lt (wr σ q 0 (0 : Int32)) fun σ1 => bd (f_M_hold q σ1) fun _ σ3 => bd (f_M_empty q σ3) fun _ σ5 => lt (wr σ5 q 11 (0 : Int32)) fun σ6 => lt (wr σ6 q 15 (0 : Int32)) fun σ7 => bd (f_M_read q σ7) fun _ σ9 => L_M_load_29 q (ldK q) FU (0 : Int32) σ9 := by
  unfold f_M_load ldK
  rfl
theorem load_keep {τ : Mem} {z : Int32} {N : Nat} (hN : N ≤ 5) (h3 : τ 299 3 = nI N) (h15 : τ 299 15 = 0) : ∃ σ', ldK 299 z τ = some (z, σ') ∧ (∀ w, w ≠ 299 → w ≠ 301 → σ' w = τ w) ∧ σ' 299 5 = 0 ∧ σ' 299 3 = nI (min (N + 1) 5) ∧ KP (σ' 301) (τ 301) (τ 303) N := by
  unfold ldK
  rw [if_pos h15, h3]
  by_cases h5 : N = 5
  · subst h5
    rw [if_pos (by decide), load_a, lt_eq]
    generalize hQ1 : (fun p => if p < 1924 then τ 301 (p + 481) else τ 301 p) = Q1
    have e3 : wr (wrow τ 301 Q1) 299 3 (wrow τ 301 Q1 299 3 - 1) 299 3 = nI 4 := by
      rw [wr_h rfl rfl, wrow_m (by decide), h3]
      decide
    rw [load_b (N := 4) (by decide) e3, lt_eq, lt_eq]
    generalize hτ1 : wr (wrow τ 301 Q1) 299 3 (wrow τ 301 Q1 299 3 - 1) = τ1 at *
    have u1 : τ1 301 = Q1 := by rw [← hτ1, wr_other (by decide), wrow_h]
    have u0 : τ1 303 = τ 303 := by rw [← hτ1, wr_other (by decide), wrow_m (by decide)]
    refine ⟨_, rfl, fun w a1 a2 => ?_, wr_h rfl rfl, ?_, fun k hk => ?_, fun j k hj hk => ?_⟩
    · rw [wr_other a1, wr_other a1, wrow_m a2, ← hτ1, wr_other a1, wrow_m a2]
    · rw [wr_m (by omega), wr_h rfl rfl, wrow_m (by decide), e3]
      decide
    · rw [wr_other (by decide), wr_other (by decide), wrow_h, if_pos (by omega), u0]
      exact congrArg (τ 303) (by omega)
    · rw [wr_other (by decide), wr_other (by decide), wrow_h, if_neg (by omega), u1, ← hQ1, if_pos rfl]
      show (if 481 * j + k < 1924 then τ 301 (481 * j + k + 481) else τ 301 (481 * j + k)) = _
      rw [if_pos (by omega)]
      exact congrArg (τ 301) (by omega)
  · have hne : ¬ nI N = 5 := fun e => h5 ((nI_eq (by omega) (by decide)).mp e)
    rw [if_neg hne, load_b (N := N) (by omega) h3, lt_eq, lt_eq]
    refine ⟨_, rfl, fun w a1 a2 => ?_, wr_h rfl rfl, ?_, fun k hk => ?_, fun j k hj hk => ?_⟩
    · rw [wr_other a1, wr_other a1, wrow_m a2]
    · rw [wr_m (by omega), wr_h rfl rfl, wrow_m (by decide), h3, ← nI_succ]
      exact congrArg nI (by omega)
    · rw [wr_other (by decide), wr_other (by decide), wrow_h, if_pos (by omega)]
      exact congrArg (τ 303) (by omega)
    · rw [wr_other (by decide), wr_other (by decide), wrow_h, if_neg (by omega), if_neg h5]
      exact congrArg (τ 301) (by omega)
theorem load_run {τ : Mem} {c : Nat → Int32} {L : Nat} (h : TM τ c L) : ∃ τ', f_M_load 299 τ = ldK 299 (nI (prs c L 161 (emS (τ 300)) 0 0).2.2) τ' ∧ (∀ w, w ≠ 299 → w ≠ 300 → w ≠ 303 → τ' w = τ w) ∧ (∀ k, k ≠ 0 → (k < 11 ∨ 15 < k) → τ' 299 k = τ 299 k) ∧ τ' 303 = hoR (τ 300) (τ 303) ∧ oM τ' (prs c L 161 (emS (τ 300)) 0 0) := by
  have hL := h.2.2.1
  rw [load_e, lt_eq, bd_eq hold_M, bd_eq empty_M, lt_eq, lt_eq]
  generalize h3 : wrow (wrow (wr τ 299 0 0) 303 (hoR (wr τ 299 0 0 300) (wr τ 299 0 0 303))) 300 (emS (wrow (wr τ 299 0 0) 303 (hoR (wr τ 299 0 0 300) (wr τ 299 0 0 303)) 300)) = τ3
  have a1 : ∀ w, w ≠ 299 → w ≠ 300 → w ≠ 303 → τ3 w = τ w := fun w b1 b2 b3 => by
    rw [← h3, wrow_m b2, wrow_m b3, wr_other b1]
  have a2 : ∀ k, k ≠ 0 → τ3 299 k = τ 299 k := fun k hk => by
    rw [← h3, wrow_m (by decide), wrow_m (by decide), wr_m (Or.inr hk)]
  have a3 : τ3 303 = hoR (τ 300) (τ 303) := by
    rw [← h3, wrow_m (by decide), wrow_h, wr_other (by decide), wr_other (by decide)]
  have a4 : τ3 300 = emS (τ 300) := by
    rw [← h3, wrow_h, wrow_m (by decide), wr_other (by decide)]
  generalize h7 : wr (wr τ3 299 11 0) 299 15 0 = τ7
  have c1 : X9 τ3 τ7 := by rw [← h7]; exact X9_t (X9_w (by omega)) (X9_w (by omega))
  have T3 : TM τ3 c L := ⟨(a2 5 (by decide)).trans h.1, fun k hk => by rw [a1 302 (by decide) (by decide) (by decide)]; exact h.2.1 k hk, h.2.2⟩
  obtain ⟨τ9, e9, x9, g9⟩ := read_m (X9_T c1 T3) (by rw [← h7, wr_h rfl rfl]) (show τ7 299 11 = nI 0 by rw [← h7, wr_m (by omega), wr_h rfl rfl]; rfl) (Nat.zero_le _)
  have y9 := X9_t c1 x9
  obtain ⟨τ', e', x', o'⟩ := lp_m (K := ldK 299) 161 FU (emS (τ 300)) 0 0 τ9 (by omega) (by decide) (X9_T y9 T3) g9 em_W.1 (by rw [y9.1 300 (by decide)]; exact a4)
  refine ⟨τ', by rw [bd_eq e9]; exact e', fun w b1 b2 b3 => ?_, fun k hk hk2 => ?_, ?_, o'⟩
  · rw [x'.1 w b1 b2, y9.1 w b1, a1 w b1 b2 b3]
  · rw [x'.2 k hk2, y9.2 k hk2, a2 k hk]
  · rw [x'.1 303 (by decide) (by decide), y9.1 303 (by decide), a3]
theorem inv_ld {σ σ' : Mem} (hI : Inv σ) (h : ∀ w, w < 43 ∨ (85 ≤ w ∧ w < 303) → w ≠ 297 → w ≠ 299 → w ≠ 300 → σ' w = σ w) (h297 : σ' 297 0 = σ 297 0) (h300 : ∀ k, k < 481 → σ' 300 k = σ 300 k) (h3 : σ' 299 3 = σ 299 3) (h5 : σ' 299 5 = σ 299 5) (hT : FBq σ' 43) : Inv σ' := by
  have h0 : wrow σ 297 (σ' 297) 297 = σ' 297 := wrow_h
  have hm : ∀ w, w ≠ 297 → wrow σ 297 (σ' 297) w = σ w := fun w hw => wrow_m hw
  have hI1 : Inv (wrow σ 297 (σ' 297)) := by
    refine inv_txt hI (fun w b1 b2 b3 b4 => hm w b1) (by rw [hm 299 (by decide)]) ?_
    rw [h0, h297, hm 298 (by decide), hm 299 (by decide), hm 302 (by decide)]
    exact hI.2.2.1
  refine inv_fc hI1 (fun w hw b1 b2 => ?_) (fun k hk => ?_) ?_ ?_ hT
  · by_cases e : w = 297
    · rw [e, h0]
    · rw [hm w e, h w hw e b1 b2]
  · rw [hm 300 (by decide)]; exact h300 k hk
  · rw [hm 299 (by decide)]; exact h3
  · rw [hm 299 (by decide)]; exact h5
theorem neg10 : ∀ s : Nat, s < 161 → ¬ (0 : Int32) ≤ -10 - nI s := by decide +kernel
theorem s_load : Same (f_X_load 0) (f_M_load 299) := by
  intro σ hI
  obtain ⟨hl, h5, ht⟩ := hI.2.2.1
  have hTX : TX σ (σ 298) (σ 297 0).toInt.toNat := ⟨toNI hl.1, rfl, by omega, fun k hk z => by
    have := (ht k (by omega)).2.1
    rw [z, z0T] at this
    omega⟩
  have hTM : ∀ τ : Mem, τ 299 5 = σ 299 5 → τ 302 = σ 302 → TM τ (σ 298) (σ 297 0).toInt.toNat := fun τ g1 g2 => ⟨g1.trans (h5.trans (toNI hl.1)), fun k hk => by rw [g2]; exact ((ht k (by omega)).1).symm, by omega, fun k hk => (ht k (by omega)).2⟩
  generalize hLL : (σ 297 0).toInt.toNat = L at hTX hTM
  generalize hcc : σ 298 = c at hTX hTM
  have hL := hTX.2.2.1
  obtain ⟨σa, ea, ra, ba, wa⟩ := clear_X (A := σ 300) hI.2.2.2.2.1
  have Ta : TX σa c L := TX_k (by rw [wa 297 (by decide)]) (wa 298 (by decide)) hTX
  generalize hσb : wr (wr σa 297 2 0) 297 5 0 = σb
  have Xb : X7 σa σb := by rw [← hσb]; exact X7_t (X7_w (by decide)) (X7_w (by decide))
  have sb : cS σb L (.inl 0) := ⟨Nat.zero_le _, by rw [← hσb, wr_m (by omega), wr_h rfl rfl], by rw [← hσb, wr_h rfl rfl]; rfl⟩
  obtain ⟨σc, ec, xc, gc⟩ := next_c (X7_T Xb Ta) sb
  have Xc := X7_t Xb xc
  obtain ⟨σd, ed, xd, bdd, od⟩ := lp_c (K := fun z9 σ10 => if (σ10 297 2) = 0 then some (z9, σ10) else some ((-10 : Int32) - (σ10 297 4), σ10)) 161 FU (emS (σ 300)) 0 0 σc (by omega) (by decide) (Nat.le_refl _) (X7_T Xc Ta) gc em_W.1 (X7_R em_W.1.1 Xc ra) (X7_B Xc ba)
  have Xd := XC_t (XC_7 Xc) xd
  have wd : ∀ w, w ≠ 297 → (w < 43 ∨ 85 ≤ w) → σd w = σ w := fun w h1 h2 => by rw [Xd.1 w h1 h2, wa w h2]
  have d0 : σd 297 0 = σ 297 0 := by rw [Xd.2, wa 297 (by decide)]
  have hId : Inv σd := inv_ld hI (fun w hw b1 _ _ => wd w b1 (by omega)) d0 (fun k _ => by rw [wd 300 (by decide) (by decide)]) (by rw [wd 299 (by decide) (by decide)]) (by rw [wd 299 (by decide) (by decide)]) bdd
  have erd : ∀ (r : Int32), (if (σd 297 2) = 0 then some (nI (prs c L 161 (emS (σ 300)) 0 0).2.2, σd) else some ((-10 : Int32) - (σd 297 4), σd)) = some (r, σd) → f_Txt_read 297 43 σa = some (r, σd) := fun r hr => by
    unfold f_Txt_read
    rw [lt_eq, lt_eq, hσb, bd_eq ec]
    exact (show _ = _ from ed).trans hr
  have hcnt := prs_x (c := c) (L := L) 161 (emS (σ 300)) 0 0
  have hWp := prs_W (c := c) (L := L) 161 (emS (σ 300)) 0 0
  generalize hR : prs c L 161 (emS (σ 300)) 0 0 = R at od erd hcnt hWp
  unfold f_X_load
  simp only [Nat.zero_add]
  rw [bd_eq ea]
  obtain ⟨st, S', cnt⟩ := R
  cases st with
  | inr s =>
    have hB : cB σd s := od.2 s rfl
    have hs : s < 161 := by
      obtain ⟨_, _, e, _, h1, h2⟩ := hB
      omega
    have er := erd (-10 - nI s) (by rw [if_neg (show ¬ σd 297 2 = 0 by rw [hB.1]; decide), hB.2.1])
    rw [bd_eq er, if_neg (neg10 s hs)]
    obtain ⟨τ6, e6, u1, u2, u3, u4⟩ := load_run (hTM σd (by rw [wd 299 (by decide) (by decide)]) (wd 302 (by decide) (by decide)))
    rw [wd 300 (by decide) (by decide), hR] at e6 u4
    obtain ⟨o1, o2⟩ := u4.2 s rfl
    refine ⟨-10 - nI s, σd, wrow τ6 300 (hoR (τ6 303) (τ6 300)), rfl, ?_, ?_⟩
    · rw [e6]
      unfold ldK
      rw [if_neg (show ¬ τ6 299 15 = 0 by rw [o1]; decide), bd_eq release_M, wrow_m (by decide), o2]
    · refine inv_ld hId (fun w hw b1 b2 b3 => ?_) ?_ (fun k hk => ?_) ?_ ?_ (FBq_cong (fun w h1 h2 => ?_) bdd)
      · rw [wrow_m b3, u1 w b2 b3 (by omega)]
      · rw [wrow_m (by decide), u1 297 (by decide) (by decide) (by decide)]
      · rw [wrow_h, hoR, if_pos hk, u3, hoR, if_pos hk]
      · rw [wrow_m (by decide), u2 3 (by decide) (by decide)]
      · rw [wrow_m (by decide), u2 5 (by decide) (by decide)]
      · rw [wrow_m (by omega), u1 w (by omega) (by omega) (by omega)]
  | inl b =>
    obtain ⟨d2, rd⟩ := od.1 b rfl
    obtain ⟨W1, W2⟩ := hWp b (Nat.zero_le _) em_W.1 rfl
    have W1 : WF S' := W1
    have W2 : gI S' 0 = gI (emS (σ 300)) 0 := W2
    have hcnt : cnt ≤ 161 := by simpa using hcnt
    have er := erd (nI cnt) (by rw [if_pos d2])
    rw [bd_eq er, if_pos (show (0 : Int32) ≤ nI cnt from nI_le (a := 0) (Nat.zero_le _) (by omega))]
    obtain ⟨σe, ee, hr⟩ := rec_X hId
    have hr : RecF σd σe := hr
    have we := RecF_w hId hr
    have Re : RH σe 43 S' := RH_cong (nS_le W1.1) (fun w h1 h2 => we w (by omega)) rd
    have Be : FBq σe 43 := FBq_cong (fun w h1 h2 => we w (by omega)) bdd
    obtain ⟨σf, ef, wf, pf⟩ := copy_X (σ := σe) (q := 1) (q1 := 43) (by omega) Be (RH_pres W1 Re)
    have Rf := CP_RH W1.1 pf Re
    have Bf := CP_FB pf Be
    rw [bd_eq ee, bd_eq ef]
    unfold f_Txt_clear
    rw [lt_eq, lt_eq, bd_some]
    have wg : ∀ w, w ≠ 297 → 297 ≤ w → wr σf 297 0 0 w = σ w := fun w h1 h2 => by rw [wr_other h1, wf w (by omega), we w (by omega), wd w h1 (by omega)]
    obtain ⟨τ6, e6, u1, u2, u3, u4⟩ := load_run (hTM (wr σf 297 0 0) (by rw [wg 299 (by decide) (by decide)]) (wg 302 (by decide) (by decide)))
    rw [wg 300 (by decide) (by decide), hR] at e6 u4
    obtain ⟨o1, o2⟩ := u4.1 b rfl
    have hn5 : (σd 85 0).toInt.toNat ≤ 5 := by have := hId.2.1.1; omega
    have k3 : τ6 299 3 = nI (σd 85 0).toInt.toNat := by
      rw [u2 3 (by decide) (by decide), wg 299 (by decide) (by decide), hI.2.1.2.2.1, wd 85 (by decide) (by decide)]
      exact toNI hI.2.1.1.1
    obtain ⟨σ4, e4, v1, v2, v3, v4⟩ := load_keep (z := nI cnt) hn5 k3 o1
    have low : ∀ w, w ≠ 299 → w ≠ 300 → w ≠ 301 → w ≠ 303 → σ4 w = wr σf 297 0 0 w := fun w b1 b2 b3 b4 => by rw [v1 w b1 b3, u1 w b1 b2 b4]
    have t0 : σ4 297 0 = 0 := by rw [low 297 (by decide) (by decide) (by decide) (by decide), wr_h rfl rfl]
    refine ⟨nI cnt, wr σf 297 0 0, σ4, rfl, e6.trans e4, ?_⟩
    refine act_done (S' := S') hId hr W1 (by rw [W2, em_W.2]; decide) (RH_cong (nS_le W1.1) (fun w h1 h2 => ?_) Rf) ?_ (FBq_cong (fun w h1 h2 => ?_) Bf) (FBq_cong (fun w h1 h2 => ?_) bdd) (fun w h1 h2 => ?_) ?_ v3 ?_
    · rw [low w (by omega) (by omega) (by omega) (by omega), wr_other (by omega)]
    · rw [v1 300 (by decide) (by decide), o2]
    · rw [low w (by omega) (by omega) (by omega) (by omega), wr_other (by omega)]
    · rw [low w (by omega) (by omega) (by omega) (by omega), wr_other (by omega), wf w (by omega), we w (by omega)]
    · rw [low w (by omega) (by omega) (by omega) (by omega), wr_other (by omega), wf w (by omega)]
    · rw [t0, v2, z0T]
      exact ⟨⟨by decide, by decide⟩, rfl, fun k hk => by omega⟩
    · have q1 : τ6 301 = σd 301 := by rw [u1 301 (by decide) (by decide) (by decide), wg 301 (by decide) (by decide), wd 301 (by decide) (by decide)]
      have q3 : ∀ k, k < 481 → τ6 303 k = σd 300 k := fun k hk => by rw [u3, hoR, if_pos hk, wg 300 (by decide) (by decide), wd 300 (by decide) (by decide)]
      refine ⟨fun k hk => by rw [v4.1 k hk, q3 k hk], fun j k hj hk => by rw [v4.2 j k hj hk, q1]⟩
