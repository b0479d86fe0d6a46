/-! a sensor's step in a tick: the row -/
theorem value_in {S : Nat → Int32} {i : Nat} {u : Int32} (h3 : 0 ≤ gI S (14 + 19 * i) ∧ gI S (14 + 19 * i) ≤ 99) (h4 : 0 ≤ gI S (15 + 19 * i) ∧ gI S (15 + 19 * i) ≤ 999) (hu : 0 ≤ u.toInt ∧ u.toInt ≤ 10499) : 0 ≤ (valS S i u).toInt ∧ (valS S i u).toInt ≤ 999 :=
  (value_X (c := 0) (σ := fun _ k => if k = 3 then S (14 + 19 * i) else S (15 + 19 * i)) h3 h4 hu rfl rfl).2
theorem late_X {S : Nat → Int32} {i : Nat} {σ : Mem} (hs : 0 ≤ gI S (18 + 19 * i) ∧ gI S (18 + 19 * i) ≤ 10500) (hj : 0 ≤ gI S (16 + 19 * i) ∧ gI S (16 + 19 * i) ≤ 9) (hi : i < 8) : f_X_remainder (7 * S (18 + 19 * i) + nI i) (S (16 + 19 * i) + 1) σ = some (lateS S i, σ) ∧ 0 ≤ (lateS S i).toInt ∧ (lateS S i).toInt ≤ 9 := by
  have i7 : (7 : Int32).toInt = 7 := by decide
  unfold gI at *
  have e1 : (7 * S (18 + 19 * i)).toInt = 7 * (S (18 + 19 * i)).toInt := by rw [tM (by rw [i7]; omega) (by rw [i7]; omega), i7]
  have ei : (nI i).toInt = i := nI_toInt (by omega)
  have e2 : (7 * S (18 + 19 * i) + nI i).toInt = 7 * (S (18 + 19 * i)).toInt + i := by rw [tA (by rw [e1, ei]; omega) (by rw [e1, ei]; omega), e1, ei]
  have e3 : (S (16 + 19 * i) + 1).toInt = (S (16 + 19 * i)).toInt + 1 := plus1 hj.2 (by decide)
  have hm := Int.emod_nonneg (7 * (S (18 + 19 * i)).toInt + i) (show (S (16 + 19 * i)).toInt + 1 ≠ 0 by omega)
  have hl := Int.emod_lt_of_pos (7 * (S (18 + 19 * i)).toInt + i) (show 0 < (S (16 + 19 * i)).toInt + 1 by omega)
  unfold f_X_remainder lateS
  rw [if_neg (by rw [Int32.le_iff_toInt_le, e3, z0T]; omega), bd_eq (rem_fm (by rw [e2]; omega) (by rw [e3]; omega)), rem_in (by rw [e2]; omega) (by rw [e3]; omega), e2, e3]
  exact ⟨rfl, by omega, by omega⟩
theorem time_in {S P : Nat → Int32} {i : Nat} (h6 : 0 ≤ gI S 6 ∧ gI S 6 ≤ 10499) (hs : 0 ≤ gI S (18 + 19 * i) ∧ gI S (18 + 19 * i) ≤ 10500) (hp : 1 ≤ (P i).toInt ∧ (P i).toInt ≤ 400) : 0 ≤ (timeS S P i).toInt ∧ (timeS S P i).toInt ≤ 10000000 := by
  unfold gI at *
  have e1 : (S (18 + 19 * i) + 1).toInt = (S (18 + 19 * i)).toInt + 1 := plus1 hs.2 (by decide)
  have hm : 0 ≤ ((S (18 + 19 * i)).toInt + 1) * (P i).toInt ∧ ((S (18 + 19 * i)).toInt + 1) * (P i).toInt ≤ 10501 * 400 := ⟨Int.mul_nonneg (by omega) (by omega), Int.mul_le_mul (by omega) hp.2 (by omega) (by decide)⟩
  have e2 : ((S (18 + 19 * i) + 1) * P i).toInt = ((S (18 + 19 * i)).toInt + 1) * (P i).toInt := by rw [tM (by rw [e1]; omega) (by rw [e1]; omega), e1]
  unfold timeS
  rw [tA (by rw [e2]; omega) (by rw [e2]; omega), e2]
  omega
theorem phys_in {S P : Nat → Int32} {i : Nat} {t : Int} {x : Int32 × Int32} {b : Int} (hG : WG S b) (hP : WP S i) (hR : WR S i t) (ht : t + 1 ≤ gI S 0) (h4 : S (11 + 19 * i) = 4) (hp : 1 ≤ (P i).toInt ∧ (P i).toInt ≤ 400) (hi : i < 8) (hx : physS S P i = some x) : (0 ≤ x.1.toInt ∧ x.1.toInt ≤ 401 * gI S 0 ∧ (S (11 + 19 * i) = 4 → x.1.toInt ≤ gI S 0 + 400 * (gI S (18 + 19 * i) + 1))) ∧ (x.2 = -8 ∨ (0 ≤ x.2.toInt ∧ x.2.toInt ≤ 999)) ∧ (0 ≤ (timeS S P i).toInt ∧ (timeS S P i).toInt ≤ 10499) := by
  have hn := hG.1
  have h6 := hG.2.1
  have hs := hR.1
  have hph : (0 ≤ gI S (14 + 19 * i) ∧ gI S (14 + 19 * i) ≤ 99) ∧ (0 ≤ gI S (15 + 19 * i) ∧ gI S (15 + 19 * i) ≤ 999) ∧ (0 ≤ gI S (16 + 19 * i) ∧ gI S (16 + 19 * i) ≤ 9) := by
    rcases hP with h | h
    · exact ⟨h.2.2.2.1, h.2.2.2.2.1, h.2.2.2.2.2.1⟩
    · unfold gI at h
      rw [h4] at h
      exact absurd h.1.2 (by decide)
  have hl := late_X (σ := fun _ _ => 0) (S := S) (i := i) (by omega) hph.2.2 hi
  have hti := time_in (S := S) (P := P) (i := i) (by omega) (by omega) hp
  unfold physS at hx
  by_cases hc : timeS S P i + lateS S i = S 0
  · rw [if_pos hc] at hx
    have hx := (Option.some.inj hx).symm
    subst hx
    have e : (timeS S P i).toInt + (lateS S i).toInt = gI S 0 := by
      unfold gI
      rw [← hc, tA (by omega) (by omega)]
    have ht2 : 0 ≤ (timeS S P i).toInt ∧ (timeS S P i).toInt ≤ 10499 := by omega
    refine ⟨stamp_in hn hR ht h4 hp, ?_, ht2⟩
    show (if outF S i (timeS S P i) (S 2).toInt.toNat = 0 then valS S i (timeS S P i) else -8) = -8 ∨ _
    by_cases ho : outF S i (timeS S P i) (S 2).toInt.toNat = 0
    · right
      show 0 ≤ (if outF S i (timeS S P i) (S 2).toInt.toNat = 0 then valS S i (timeS S P i) else -8).toInt ∧ (if outF S i (timeS S P i) (S 2).toInt.toNat = 0 then valS S i (timeS S P i) else -8).toInt ≤ 999
      rw [if_pos ho]
      exact value_in hph.1 hph.2.1 ht2
    · left
      rw [if_neg ho]
  · rw [if_neg hc] at hx
    exact absurd hx (by simp)
theorem dval_in {S : Nat → Int32} {i : Nat} {t1 t2 : Int} (hP : WP S i) (h4 : S (11 + 19 * i) ≠ 4) (hf : WR S (S (12 + 19 * i)).toInt.toNat t1) (hg : S (11 + 19 * i) ≠ 3 → WR S (S (13 + 19 * i)).toInt.toNat t2) (hsf : 0 < gI S (18 + 19 * (S (12 + 19 * i)).toInt.toNat)) : dvalS S i = -8 ∨ (0 ≤ (dvalS S i).toInt ∧ (dvalS S i).toInt ≤ 999) := by
  have hml : S (11 + 19 * i) = 3 → 1 ≤ (S (13 + 19 * i)).toInt.toNat ∧ (S (13 + 19 * i)).toInt.toNat ≤ 8 := fun h3 => by
    rcases hP with h | h
    · exact absurd h.1 h4
    · have := h.2.2.1 h3
      unfold gI at this
      omega
  unfold dvalS
  generalize (S (12 + 19 * i)).toInt.toNat = f at *
  generalize (S (13 + 19 * i)).toInt.toNat = g at *
  simp only []
  by_cases hx : S (20 + 19 * f) = -8
  · rw [if_pos hx]; exact Or.inl rfl
  · rw [if_neg hx]
    have hg1 := hf.2.2.2.2.2 hsf hx
    have hxv : 0 ≤ (S (20 + 19 * f)).toInt ∧ (S (20 + 19 * f)).toInt ≤ 999 := by
      rcases hf.2.2.1 with h | h
      · exact absurd h hx
      · exact h
    by_cases h3 : S (11 + 19 * i) = 3
    · rw [if_pos h3]
      exact Or.inr (mean_in (hml h3) (by omega) hf.2.2.2.2.1)
    · rw [if_neg h3]
      by_cases h7 : S (18 + 19 * g) ≤ 0
      · rw [if_pos h7]; exact Or.inl rfl
      · rw [if_neg h7]
        by_cases hy : S (20 + 19 * g) = -8
        · rw [if_pos hy]; exact Or.inl rfl
        · rw [if_neg hy]
          right
          have hyv : 0 ≤ (S (20 + 19 * g)).toInt ∧ (S (20 + 19 * g)).toInt ≤ 999 := by
            rcases (hg h3).2.2.1 with h | h
            · exact absurd h hy
            · exact h
          by_cases k0 : S (11 + 19 * i) = 0
          · have e : (S (20 + 19 * f) + S (20 + 19 * g)).toInt = (S (20 + 19 * f)).toInt + (S (20 + 19 * g)).toInt := tA (by omega) (by omega)
            rw [if_pos k0, rem_in (by rw [e]; omega) (by rw [i1000]; decide), i1000]
            omega
          · rw [if_neg k0]
            by_cases k1 : S (11 + 19 * i) = 1
            · have e1 : (S (20 + 19 * f) - S (20 + 19 * g)).toInt = (S (20 + 19 * f)).toInt - (S (20 + 19 * g)).toInt := tS (by omega) (by omega)
              have e : (S (20 + 19 * f) - S (20 + 19 * g) + 1000).toInt = (S (20 + 19 * f)).toInt - (S (20 + 19 * g)).toInt + 1000 := by rw [tA (by rw [e1, i1000]; omega) (by rw [e1, i1000]; omega), e1, i1000]
              rw [if_pos k1, rem_in (by rw [e]; omega) (by rw [i1000]; decide), i1000]
              omega
            · rw [if_neg k1]
              split
              · exact hyv
              · exact hxv
/-- the inputs of a sensor that is not physical, in a good row -/
theorem in_f {S : Nat → Int32} {tS tC : Nat → Int} {b : Int} (hW : WX S tS tC b) {i : Nat} (hi : i < nS S) (h4 : S (11 + 19 * i) ≠ 4) : (S (12 + 19 * i)).toInt.toNat < i ∧ S (12 + 19 * i) = nI (S (12 + 19 * i)).toInt.toNat ∧ (S (11 + 19 * i) ≠ 3 → (S (13 + 19 * i)).toInt.toNat < i ∧ S (13 + 19 * i) = nI (S (13 + 19 * i)).toInt.toNat) :=
  have h := (hW.2.1 i hi).1
  ⟨WP_1 h h4, WP_1n h h4, fun h3 => ⟨WP_2 h h4 h3, WP_2n h h4 h3⟩⟩
theorem WR_mono {S : Nat → Int32} {i : Nat} {t t' : Int} (h : t ≤ t') (hR : WR S i t) : WR S i t' := ⟨⟨hR.1.1, by have := hR.1.2; omega⟩, hR.2⟩
def tUp (tS : Nat → Int) (i : Nat) : Nat → Int := fun k => if k = i then tS k + 1 else tS k
theorem WX_up {S : Nat → Int32} {tS tC : Nat → Int} {b : Int} {i : Nat} (hW : WX S tS tC b) : WX S (tUp tS i) tC b :=
  ⟨hW.1, fun k hk => ⟨(hW.2.1 k hk).1, WR_mono (by unfold tUp; split <;> omega) (hW.2.1 k hk).2⟩, hW.2.2⟩
theorem pd_ok {S P : Nat → Int32} {tS tC : Nat → Int} {b : Int} (hW : WX S tS tC b) {i : Nat} (hi : i < nS S) (hP : P i = pd S i) (h9 : P i ≠ -9) : 1 ≤ (P i).toInt ∧ (P i).toInt ≤ 400 := by
  have hCW := CW_of hW
  have hCL := CL_of hW
  rw [hP] at h9 ⊢
  have hd : dm S i ≠ -9 := fun e => h9 ((pd_9 hCW hCL hi).mpr e)
  have h1 := pd_in hCW hCL hi hd
  rcases dm_ok hCW hCL hi with h2 | h2
  · exact absurd h2 hd
  · omega
theorem senStep_W {S F P : Nat → Int32} {tS tC : Nat → Int} {b : Int} {i : Nat} (hW : WX S tS tC b) (hi : i < nS S) (hP : P i = pd S i) (ht : tS i + 1 ≤ gI S 0) (hF : ∀ k, k < i → F k ≠ 0 → 0 < gI S (18 + 19 * k)) : WX (senStep P (S, F) i).1 (tUp tS i) tC b ∧ (∀ k, k < i + 1 → (senStep P (S, F) i).2 k ≠ 0 → 0 < gI (senStep P (S, F) i).1 (18 + 19 * k)) ∧ (∀ p, (p < 18 + 19 * i ∨ 30 + 19 * i ≤ p) → p ≠ 5 → (senStep P (S, F) i).1 p = S p) ∧ (∀ k, k ≠ i → (senStep P (S, F) i).2 k = F k) := by
  have h8 := nS_le hW.1
  have hWR := (hW.2.1 i hi).2
  have hn := hW.1.1
  have off : senStep P (S, F) i = (S, upS F i 0) → WX (senStep P (S, F) i).1 (tUp tS i) tC b ∧ (∀ k, k < i + 1 → (senStep P (S, F) i).2 k ≠ 0 → 0 < gI (senStep P (S, F) i).1 (18 + 19 * k)) ∧ (∀ p, (p < 18 + 19 * i ∨ 30 + 19 * i ≤ p) → p ≠ 5 → (senStep P (S, F) i).1 p = S p) ∧ (∀ k, k ≠ i → (senStep P (S, F) i).2 k = F k) := fun e => by
    rw [e]
    refine ⟨WX_up hW, fun k hk hf => ?_, fun _ _ _ => rfl, fun k hk => upS_m hk⟩
    by_cases ek : k = i
    · exact absurd (upS_h ek) hf
    · have hf : upS F i 0 k ≠ 0 := hf
      rw [upS_m ek] at hf
      exact hF k (by omega) hf
  have on : ∀ (st v x : Int32), (0 ≤ st.toInt ∧ st.toInt ≤ 401 * gI S 0 ∧ (S (11 + 19 * i) = 4 → st.toInt ≤ gI S 0 + 400 * (gI S (18 + 19 * i) + 1))) → (v = -8 ∨ (0 ≤ v.toInt ∧ v.toInt ≤ 999)) → senStep P (S, F) i = (upS (rcvS S i st v) 5 x, upS F i 1) → WX (senStep P (S, F) i).1 (tUp tS i) tC b ∧ (∀ k, k < i + 1 → (senStep P (S, F) i).2 k ≠ 0 → 0 < gI (senStep P (S, F) i).1 (18 + 19 * k)) ∧ (∀ p, (p < 18 + 19 * i ∨ 30 + 19 * i ≤ p) → p ≠ 5 → (senStep P (S, F) i).1 p = S p) ∧ (∀ k, k ≠ i → (senStep P (S, F) i).2 k = F k) := fun st v x hst hv e => by
    rw [e]
    have hag : ∀ p, (p < 18 + 19 * i ∨ 30 + 19 * i ≤ p) → p ≠ 5 → upS (rcvS S i st v) 5 x p = S p := fun p hp h5 => by rw [upS_m h5]; exact rcvS_m (by omega)
    refine ⟨WX_sen hW hi hag ?_ (fun k hk => if_neg hk), fun k hk hf => ?_, hag, fun k hk => upS_m hk⟩
    · unfold tUp
      rw [if_pos rfl]
      exact rcv_WR hn (by omega) hWR hst hv x
    · show 0 < gI (upS (rcvS S i st v) 5 x) (18 + 19 * k)
      unfold gI
      by_cases ek : k = i
      · subst ek
        have := hWR.1
        unfold gI at this hn ht
        rw [upS_m (by omega), rcvS_18, plus1 this.2 (by omega)]
        omega
      · have hf : upS F i 1 k ≠ 0 := hf
        rw [upS_m ek] at hf
        rw [hag _ (by omega) (by omega)]
        exact hF k (by omega) hf
  have hst0 : senStep P (S, F) i = if P i = -9 then (S, upS F i 0) else if S (11 + 19 * i) = 4 then (match physS S P i with | none => (S, upS F i 0) | some x => (upS (rcvS S i x.1 x.2) 5 (S 5 + S (17 + 19 * i)), upS F i 1)) else (match derS S F i with | none => (S, upS F i 0) | some x => (rcvS S i x.1 x.2, upS F i 1)) := rfl
  by_cases h9 : P i = -9
  · exact off (by rw [hst0, if_pos h9])
  · rw [if_neg h9] at hst0
    have hp := pd_ok hW hi hP h9
    by_cases h4 : S (11 + 19 * i) = 4
    · rw [if_pos h4] at hst0
      cases hx : physS S P i with
      | none => exact off (by rw [hst0, hx])
      | some x =>
        have := phys_in hW.1 (hW.2.1 i hi).1 hWR ht h4 hp (by omega) hx
        exact on x.1 x.2 _ this.1 this.2.1 (by rw [hst0, hx])
    · rw [if_neg h4] at hst0
      cases hx : derS S F i with
      | none => exact off (by rw [hst0, hx])
      | some x =>
        have hin := in_f hW hi h4
        unfold derS at hx
        by_cases hF0 : F (S (12 + 19 * i)).toInt.toNat = 0
        · simp only [if_pos hF0] at hx
          exact absurd hx (by simp)
        · simp only [if_neg hF0] at hx
          have hx2 := (Option.some.inj hx).symm
          have hsf := hF _ hin.1 hF0
          have hWf := (hW.2.1 (S (12 + 19 * i)).toInt.toNat (by omega)).2
          have hdv := dval_in (hW.2.1 i hi).1 h4 hWf (fun h3 => (hW.2.1 (S (13 + 19 * i)).toInt.toNat (by have := (hin.2.2 h3).1; omega)).2) hsf
          refine on x.1 x.2 (S 5) ?_ ?_ ?_
          · rw [hx2]
            exact ⟨hWf.2.1.1, hWf.2.1.2.1, fun h => absurd h h4⟩
          · rw [hx2]; exact hdv
          · rw [hst0]
            have hd : derS S F i = some x := by
              unfold derS
              simp only [if_neg hF0]
              exact hx
            rw [hd]
            show (rcvS S i x.1 x.2, upS F i 1) = (upS (rcvS S i x.1 x.2) 5 (S 5), upS F i 1)
            have e5 : rcvS S i x.1 x.2 5 = S 5 := rcvS_m (by omega)
            rw [← e5, ups5_id]
