/-! another capacity: what does not look at it -/
theorem dlvS_u4 {S : Nat → Int32} {c : Nat} {st v x : Int32} : dlvS (upS S 4 x) c st v = upS (dlvS S c st v) 4 x := by
  unfold dlvS ageS
  simp (disch := omega) only [upS_m]
  rw [upS_c (p := 4) (by omega), upS_c (p := 4) (by omega), upS_c (p := 4) (by omega), shS_up (by omega), upS_c (p := 4) (by omega), upS_c (p := 4) (by omega), upS_c (p := 4) (by omega)]
theorem dlvN_u4 {S : Nat → Int32} {x : Int32} : ∀ e, dlvN (upS S 4 x) e = upS (dlvN S e) 4 x := by
  intro e
  induction e with
  | zero => rfl
  | succ e ih =>
    show dlvS (dlvN (upS S 4 x) e) (upS S 4 x (391 + 3 * e)).toInt.toNat (upS S 4 x (391 + 3 * e + 1)) (upS S 4 x (391 + 3 * e + 2)) = upS (dlvS (dlvN S e) (S (391 + 3 * e)).toInt.toNat (S (391 + 3 * e + 1)) (S (391 + 3 * e + 2))) 4 x
    rw [ih, upS_m (by omega), upS_m (by omega), upS_m (by omega), dlvS_u4]
theorem wakeS_u4 {S : Nat → Int32} {c : Nat} {x : Int32} : wakeS (upS S 4 x) c = upS (wakeS S c) 4 x := by
  unfold wakeS
  rw [upS_m (j := 3) (by omega)]
  by_cases h : S 3 = 0
  · rw [if_pos h, if_pos h]
  · rw [if_neg h, if_neg h]
    simp only []
    rw [dlvN_u4, upS_m (j := 5) (by omega), upS_m (j := 7 + c) (by omega), upS_c (p := 4) (by omega), upS_c (p := 4) (by omega), upS_c (p := 4) (by omega)]
theorem rcvS_u4 {S : Nat → Int32} {i : Nat} {st v x : Int32} : rcvS (upS S 4 x) i st v = upS (rcvS S i st v) 4 x := by
  unfold rcvS
  rw [upS_m (j := 18 + 19 * i) (by omega), upS_m (j := 21 + 19 * i) (by omega)]
  by_cases h : v = -8
  · rw [if_pos h, if_pos h, upS_c (p := 4) (by omega), upS_c (p := 4) (by omega), upS_c (p := 4) (by omega)]
  · rw [if_neg h, if_neg h, upS_c (p := 4) (by omega), upS_c (p := 4) (by omega), upS_c (p := 4) (by omega), upS_c (p := 4) (by omega), upS_c (p := 4) (by omega)]
theorem outF_u4 {S : Nat → Int32} {i : Nat} {t x : Int32} : ∀ o, outF (upS S 4 x) i t o = outF S i t o := by
  intro o
  induction o with
  | zero => rfl
  | succ o ih =>
    show (if outF (upS S 4 x) i t o = 0 then (if upS S 4 x (379 + 3 * o) = nI i ∧ upS S 4 x (380 + 3 * o) ≤ t ∧ t ≤ upS S 4 x (381 + 3 * o) then 1 else 0) else (1 : Int32)) = (if outF S i t o = 0 then (if S (379 + 3 * o) = nI i ∧ S (380 + 3 * o) ≤ t ∧ t ≤ S (381 + 3 * o) then 1 else 0) else 1)
    rw [ih, upS_m (by omega), upS_m (by omega), upS_m (by omega)]
theorem sumS_u4 {S : Nat → Int32} {i g : Nat} {x : Int32} : ∀ m, sumS (upS S 4 x) i g m = sumS S i g m := by
  intro m
  induction m with
  | zero => rfl
  | succ m ih =>
    show sumS (upS S 4 x) i g m + upS S 4 x (22 + 19 * i + (g - (m + 1)) % 8) = sumS S i g m + S (22 + 19 * i + (g - (m + 1)) % 8)
    rw [ih, upS_m (by omega)]
theorem meanS_u4 {S : Nat → Int32} {i l : Nat} {x : Int32} : meanS (upS S 4 x) i l = meanS S i l := by
  unfold meanS
  simp only []
  rw [upS_m (by omega), sumS_u4]
theorem physS_u4 {S P : Nat → Int32} {i : Nat} {x : Int32} : physS (upS S 4 x) P i = physS S P i := by
  have e1 : timeS (upS S 4 x) P i = timeS S P i := by
    unfold timeS
    rw [upS_m (by omega), upS_m (by omega)]
  have e2 : lateS (upS S 4 x) i = lateS S i := by
    unfold lateS
    rw [upS_m (j := 18 + 19 * i) (by omega), upS_m (j := 16 + 19 * i) (by omega)]
  have e3 : stampS (upS S 4 x) P i = stampS S P i := by
    unfold stampS
    rw [upS_m (j := 18 + 19 * i) (by omega), upS_m (j := 0) (by omega), upS_m (j := 19 + 19 * i) (by omega)]
  have e4 : ∀ t, valS (upS S 4 x) i t = valS S i t := fun t => by
    unfold valS
    rw [upS_m (j := 14 + 19 * i) (by omega), upS_m (j := 15 + 19 * i) (by omega)]
  unfold physS
  rw [e1, e2, e3, e4, outF_u4, upS_m (j := 0) (by omega), upS_m (j := 2) (by omega)]
theorem derS_u4 {S F : Nat → Int32} {i : Nat} {x : Int32} : derS (upS S 4 x) F i = derS S F i := by
  have e1 : dvalS (upS S 4 x) i = dvalS S i := by
    unfold dvalS
    simp only []
    rw [upS_m (j := 12 + 19 * i) (by omega), upS_m (j := 13 + 19 * i) (by omega), upS_m (j := 11 + 19 * i) (by omega), upS_m (j := 20 + 19 * (S (12 + 19 * i)).toInt.toNat) (by omega), upS_m (j := 18 + 19 * (S (13 + 19 * i)).toInt.toNat) (by omega), upS_m (j := 20 + 19 * (S (13 + 19 * i)).toInt.toNat) (by omega), meanS_u4]
  unfold derS
  simp only []
  rw [e1, upS_m (j := 12 + 19 * i) (by omega), upS_m (j := 19 + 19 * (S (12 + 19 * i)).toInt.toNat) (by omega)]
theorem senStep_u4 {S F P : Nat → Int32} {i : Nat} {x : Int32} : senStep P (upS S 4 x, F) i = (upS (senStep P (S, F) i).1 4 x, (senStep P (S, F) i).2) := by
  have ha : senStep P (upS S 4 x, F) i = if P i = -9 then (upS S 4 x, upS F i 0) else if upS S 4 x (11 + 19 * i) = 4 then (match physS (upS S 4 x) P i with | none => (upS S 4 x, upS F i 0) | some y => (upS (rcvS (upS S 4 x) i y.1 y.2) 5 (upS S 4 x 5 + upS S 4 x (17 + 19 * i)), upS F i 1)) else (match derS (upS S 4 x) F i with | none => (upS S 4 x, upS F i 0) | some y => (rcvS (upS S 4 x) i y.1 y.2, upS F i 1)) := rfl
  have hb : senStep P (S, F) i = if P i = -9 then (S, upS F i 0) else if S (11 + 19 * i) = 4 then (match physS S P i with | none => (S, upS F i 0) | some y => (upS (rcvS S i y.1 y.2) 5 (S 5 + S (17 + 19 * i)), upS F i 1)) else (match derS S F i with | none => (S, upS F i 0) | some y => (rcvS S i y.1 y.2, upS F i 1)) := rfl
  rw [ha, hb, physS_u4, derS_u4, upS_m (j := 11 + 19 * i) (by omega), upS_m (j := 5) (by omega), upS_m (j := 17 + 19 * i) (by omega)]
  by_cases h9 : P i = -9
  · rw [if_pos h9, if_pos h9]
  · rw [if_neg h9, if_neg h9]
    by_cases h4 : S (11 + 19 * i) = 4
    · rw [if_pos h4, if_pos h4]
      cases physS S P i with
      | none => rfl
      | some y =>
        simp only []
        rw [rcvS_u4, upS_c (p := 4) (k := 5) (by omega)]
    · rw [if_neg h4, if_neg h4]
      cases derS S F i with
      | none => rfl
      | some y =>
        simp only []
        rw [rcvS_u4]
theorem senN_u4 {S F P : Nat → Int32} {x : Int32} : ∀ i, senN P (upS S 4 x, F) i = (upS (senN P (S, F) i).1 4 x, (senN P (S, F) i).2) := by
  intro i
  induction i with
  | zero => rfl
  | succ i ih =>
    show senStep P (senN P (upS S 4 x, F) i) i = (upS (senStep P (senN P (S, F) i) i).1 4 x, (senStep P (senN P (S, F) i) i).2)
    rw [ih, senStep_u4]
theorem addE_u4 {S : Nat → Int32} {k f : Nat} {x : Int32} : addE (upS S 4 x) k f = upS (addE S k f) 4 x := by
  unfold addE
  rw [upS_m (j := 3) (by omega), upS_m (j := 19 + 19 * f) (by omega), upS_m (j := 20 + 19 * f) (by omega), upS_c (p := 4) (by omega), upS_c (p := 4) (by omega), upS_c (p := 4) (by omega), upS_c (p := 4) (by omega)]
theorem pasS_u4 {S : Nat → Int32} {j : Nat} {x : Int32} : pasS (upS S 4 x) j = upS (pasS S j) 4 x := by
  unfold pasS
  rw [upS_m (j := 167 + 27 * j) (by omega), upS_c (p := 4) (by omega)]
theorem keepS_u4 {P S : Nat → Int32} {j : Nat} {x : Int32} : keepS P (upS S 4 x) j = keepS P S j := by
  unfold keepS shaS
  rw [upS_m (j := 167 + 27 * j) (by omega), upS_m (j := 165 + 27 * j) (by omega), upS_m (j := 164 + 27 * j) (by omega)]
theorem blS_u4 {S : Nat → Int32} {j : Nat} {x : Int32} : blS (upS S 4 x) j = upS (blS S j) 4 x := by
  unfold blS
  rw [upS_m (j := 171 + 27 * j) (by omega), upS_c (p := 4) (by omega)]
theorem dueL_u4 {S : Nat → Int32} {x : Int32} : ∀ j e, dueL (upS S 4 x) j e = upS (dueL S j e) 4 x := by
  intro j
  induction j with
  | zero => intro e; rfl
  | succ j ih =>
    intro e
    have e1 : eCl (upS S 4 x) e = eCl S e := by
      unfold eCl
      rw [upS_m (by omega)]
    have e2 : dlE (upS S 4 x) e = dlE S e := by
      unfold dlE
      rw [e1, upS_m (by omega), upS_m (by omega)]
    show (if upS S 4 x 0 < dlE (upS S 4 x) e then dueL (upS S 4 x) j (e + 1) else wakeS (blS (upS S 4 x) (eCl (upS S 4 x) e)) 0) = upS (if S 0 < dlE S e then dueL S j (e + 1) else wakeS (blS S (eCl S e)) 0) 4 x
    rw [e1, e2, upS_m (j := 0) (by omega), ih, blS_u4, wakeS_u4]
    split <;> rfl
theorem dueS_u4 {S : Nat → Int32} {x : Int32} : dueS (upS S 4 x) = upS (dueS S) 4 x := by
  unfold dueS
  rw [upS_m (j := 3) (by omega), dueL_u4]
theorem now1_u4 {S : Nat → Int32} {x : Int32} : now1 (upS S 4 x) = upS (now1 S) 4 x := by
  unfold now1
  rw [upS_m (j := 0) (by omega), upS_c (p := 4) (by omega)]
theorem nS_u4 {S : Nat → Int32} {x : Int32} : nS (upS S 4 x) = nS S := by
  unfold nS
  rw [upS_m (by omega)]
theorem srcF_u4 {S : Nat → Int32} {x : Int32} : ∀ f i, srcF (upS S 4 x) f i = srcF S f i := by
  intro f
  induction f with
  | zero => intro i; rfl
  | succ f ih =>
    intro i
    show (if upS S 4 x (11 + 19 * i) = 4 then i else srcF (upS S 4 x) f (upS S 4 x (12 + 19 * i)).toInt.toNat) = (if S (11 + 19 * i) = 4 then i else srcF S f (S (12 + 19 * i)).toInt.toNat)
    rw [upS_m (by omega), upS_m (by omega), ih]
theorem askF_u4 {S : Nat → Int32} {x : Int32} (k : Nat) : ∀ j, askF (upS S 4 x) k j = askF S k j := by
  intro j
  induction j with
  | zero => rfl
  | succ j ih =>
    show (if upS S 4 x (163 + 27 * j) = 1 ∧ upS S 4 x (164 + 27 * j) = nI k then less (askF (upS S 4 x) k j) (upS S 4 x (165 + 27 * j)) else askF (upS S 4 x) k j) = (if S (163 + 27 * j) = 1 ∧ S (164 + 27 * j) = nI k then less (askF S k j) (S (165 + 27 * j)) else askF S k j)
    rw [ih, upS_m (by omega), upS_m (by omega), upS_m (by omega)]
theorem dmS_u4 {S : Nat → Int32} {x : Int32} : ∀ j, dmS (upS S 4 x) j = dmS S j := by
  intro j
  induction j with
  | zero =>
    funext k
    exact askF_u4 k 8
  | succ j ih =>
    unfold dmS
    simp only [ih, nS_u4]
    rw [upS_m (j := 11 + 19 * (nS S - 1 - j)) (by omega), upS_m (j := 12 + 19 * (nS S - 1 - j)) (by omega), upS_m (j := 13 + 19 * (nS S - 1 - j)) (by omega)]
theorem pd_u4 {S : Nat → Int32} {x : Int32} : pd (upS S 4 x) = pd S := by
  funext i
  unfold pd dm sup src
  rw [nS_u4, dmS_u4, srcF_u4, upS_m (j := 12 + 19 * srcF S 8 i) (by omega), upS_m (j := 13 + 19 * srcF S 8 i) (by omega)]
