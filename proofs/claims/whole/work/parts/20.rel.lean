/-! THE TWO SIDES. A hub of the class is the 42 cells from q on; the reference's state is a row of numbers S. -/
def gI (S : Nat → Int32) (k : Nat) : Int := (S k).toInt
/-- how many sensors -/
def nS (S : Nat → Int32) : Nat := (S 1).toInt.toNat
def srcF (S : Nat → Int32) : Nat → Nat → Nat
  | 0, i => i
  | f + 1, i => if S (11 + 19 * i) = 4 then i else srcF S f (S (12 + 19 * i)).toInt.toNat
/-- the source of a sensor -/
def src (S : Nat → Int32) (i : Nat) : Nat := srcF S 8 i
def lstF (S : Nat → Int32) : Nat → Nat → Int
  | 0, _ => 0
  | f + 1, i => if S (11 + 19 * i) = 4 then gI S (12 + 19 * i) else if S (11 + 19 * i) = 3 then lstF S f (S (12 + 19 * i)).toInt.toNat else max (lstF S f (S (12 + 19 * i)).toInt.toNat) (lstF S f (S (13 + 19 * i)).toInt.toNat)
/-- the smallest period that a client may ask of a sensor -/
def lst (S : Nat → Int32) (i : Nat) : Int := lstF S 8 i
def less (a b : Int32) : Int32 := if a = -9 then b else if b = -9 then a else if a < b then a else b
/-- what the first j clients ask of sensor k -/
def askF (S : Nat → Int32) (k : Nat) : Nat → Int32
  | 0 => -9
  | j + 1 => if S (163 + 27 * j) = 1 ∧ S (164 + 27 * j) = nI k then less (askF S k j) (S (165 + 27 * j)) else askF S k j
def upS (d : Nat → Int32) (k : Nat) (x : Int32) : Nat → Int32 := fun j => if j = k then x else d j
/-- the demands, behind the j uppermost sensors -/
def dmS (S : Nat → Int32) : Nat → Nat → Int32
  | 0 => fun k => askF S k 8
  | j + 1 =>
    let d := dmS S j
    let k := nS S - 1 - j
    if S (11 + 19 * k) ≠ 4 ∧ d k ≠ -9 then
      let f := (S (12 + 19 * k)).toInt.toNat
      let d1 := upS d f (less (d f) (d k))
      let g := if S (11 + 19 * k) = 3 then f else (S (13 + 19 * k)).toInt.toNat
      upS d1 g (less (d1 g) (d1 k))
    else d
def dm (S : Nat → Int32) : Nat → Int32 := dmS S (nS S)
/-- doubling: at most so many times, while it stays within the demand -/
def supL (steps d : Int32) : Nat → Int32 → Int32 → Int32
  | 0, p, _ => p
  | f + 1, p, k => if k < steps ∧ 2 * p ≤ d then supL steps d f (2 * p) (k + 1) else p
def sup (S : Nat → Int32) (i : Nat) (d : Int32) : Int32 := supL (S (13 + 19 * i)) d 8 (S (12 + 19 * i)) 1
def pd (S : Nat → Int32) (i : Nat) : Int32 := if dm S i = -9 then -9 else if dm S (src S i) = -9 then -9 else sup S (src S i) (dm S (src S i))
/-! what holds of the reference's row between calls (and in a forecast) -/
def WG (S : Nat → Int32) (b : Int) : Prop := (0 ≤ gI S 0 ∧ gI S 0 ≤ 10499) ∧ (0 ≤ gI S 6 ∧ gI S 6 ≤ gI S 0) ∧ (0 ≤ gI S 1 ∧ gI S 1 ≤ 8) ∧ (0 ≤ gI S 2 ∧ gI S 2 ≤ 4) ∧ (0 ≤ gI S 3 ∧ gI S 3 ≤ 30) ∧ (1 ≤ gI S 4 ∧ gI S 4 ≤ 30) ∧ (0 ≤ gI S 7 ∧ 0 ≤ gI S 8 ∧ 0 ≤ gI S 9 ∧ 0 ≤ gI S 10 ∧ gI S 7 + gI S 8 + gI S 9 + gI S 10 + gI S 3 ≤ b)
def WP (S : Nat → Int32) (i : Nat) : Prop := (S (11 + 19 * i) = 4 ∧ (1 ≤ gI S (12 + 19 * i) ∧ gI S (12 + 19 * i) ≤ 20) ∧ (1 ≤ gI S (13 + 19 * i) ∧ gI S (13 + 19 * i) ≤ 5) ∧ (0 ≤ gI S (14 + 19 * i) ∧ gI S (14 + 19 * i) ≤ 99) ∧ (0 ≤ gI S (15 + 19 * i) ∧ gI S (15 + 19 * i) ≤ 999) ∧ (0 ≤ gI S (16 + 19 * i) ∧ gI S (16 + 19 * i) ≤ 9) ∧ (1 ≤ gI S (17 + 19 * i) ∧ gI S (17 + 19 * i) ≤ 50))
  ∨ ((0 ≤ gI S (11 + 19 * i) ∧ gI S (11 + 19 * i) ≤ 3) ∧ (0 ≤ gI S (12 + 19 * i) ∧ gI S (12 + 19 * i) < i) ∧ (S (11 + 19 * i) = 3 → 1 ≤ gI S (13 + 19 * i) ∧ gI S (13 + 19 * i) ≤ 8) ∧ (S (11 + 19 * i) ≠ 3 → 0 ≤ gI S (13 + 19 * i) ∧ gI S (13 + 19 * i) < i))
/-- what a sensor has received, at most a sample a tick in t ticks -/
def WR (S : Nat → Int32) (i : Nat) (t : Int) : Prop := (0 ≤ gI S (18 + 19 * i) ∧ gI S (18 + 19 * i) ≤ t) ∧ (0 ≤ gI S (19 + 19 * i) ∧ gI S (19 + 19 * i) ≤ 401 * gI S 0 ∧ (S (11 + 19 * i) = 4 → gI S (19 + 19 * i) ≤ gI S 0 + 400 * gI S (18 + 19 * i))) ∧ (S (20 + 19 * i) = -8 ∨ (0 ≤ gI S (20 + 19 * i) ∧ gI S (20 + 19 * i) ≤ 999)) ∧ (0 ≤ gI S (21 + 19 * i) ∧ gI S (21 + 19 * i) ≤ gI S (18 + 19 * i)) ∧ (∀ r : Nat, r < 8 → (r : Int) < gI S (21 + 19 * i) → 0 ≤ gI S (22 + 19 * i + r) ∧ gI S (22 + 19 * i + r) ≤ 999) ∧ (0 < gI S (18 + 19 * i) → S (20 + 19 * i) ≠ -8 → 0 < gI S (21 + 19 * i))
def WC (S : Nat → Int32) (j : Nat) (t b : Int) : Prop := S (163 + 27 * j) = 0 ∨ (S (163 + 27 * j) = 1 ∧ (0 ≤ gI S (164 + 27 * j) ∧ gI S (164 + 27 * j) < gI S 1) ∧ (1 ≤ gI S (165 + 27 * j) ∧ gI S (165 + 27 * j) ≤ 400) ∧ (0 ≤ gI S (166 + 27 * j) ∧ gI S (166 + 27 * j) ≤ 400) ∧ (0 ≤ gI S (167 + 27 * j) ∧ gI S (167 + 27 * j) ≤ t) ∧ (0 ≤ gI S (168 + 27 * j) ∧ gI S (168 + 27 * j) + gI S 3 ≤ b) ∧ (0 ≤ gI S (170 + 27 * j) ∧ (S (168 + 27 * j) = 0 → S (170 + 27 * j) = 0)) ∧ lst S (S (164 + 27 * j)).toInt.toNat ≤ gI S (165 + 27 * j))
/-- an entry of the store: of a client that is there, with a stamp in bounds -/
def WE (S : Nat → Int32) (e : Nat) : Prop := (0 ≤ gI S (391 + 3 * e) ∧ gI S (391 + 3 * e) < 8) ∧ S (163 + 27 * (S (391 + 3 * e)).toInt.toNat) = 1 ∧ 0 ≤ gI S (392 + 3 * e) ∧ gI S (392 + 3 * e) ≤ 5000000
def WX (S : Nat → Int32) (tS tC : Nat → Int) (b : Int) : Prop := WG S b ∧ (∀ i, i < nS S → WP S i ∧ WR S i (tS i)) ∧ (∀ j, j < 8 → WC S j (tC j) b) ∧ ∀ e : Nat, (e : Int) < gI S 3 → WE S e
def WF (S : Nat → Int32) : Prop := WX S (fun _ => gI S 0) (fun _ => gI S 0) (8 * gI S 0)
/-! how the class's cells and the row go together -/
def RG (σ : Mem) (q : Nat) (S : Nat → Int32) : Prop := σ q 0 = S 0 ∧ σ q 1 = S 6 ∧ σ q 2 = S 5 ∧ σ q 3 = S 4 ∧ σ q 4 = S 1 ∧ ∀ c, c < 4 → σ (q + 1) c = S (7 + c)
def RO (σ : Mem) (q : Nat) (S : Nat → Int32) : Prop := σ (q + 4) 0 = S 2 ∧ ∀ o : Nat, (o : Int) < gI S 2 → σ (q + 4 + 1) o = S (379 + 3 * o) ∧ σ (q + 4 + 2) o = S (380 + 3 * o) ∧ σ (q + 4 + 3) o = S (381 + 3 * o)
def RE (σ : Mem) (q : Nat) (S : Nat → Int32) : Prop := σ (q + 8) 0 = S 3 ∧ ∀ e p : Nat, (e : Int) < gI S 3 → p < 3 → σ (q + 8 + 1) (3 * e + p) = S (391 + 3 * e + p)
/-- what was given of sensor i: a its cell -/
def RP (a : Nat → Int32) (S : Nat → Int32) (i : Nat) : Prop := a 0 = S (11 + 19 * i) ∧ (S (11 + 19 * i) = 4 → a 1 = S (12 + 19 * i) ∧ a 2 = S (13 + 19 * i) ∧ a 3 = S (14 + 19 * i) ∧ a 4 = S (15 + 19 * i) ∧ a 5 = S (16 + 19 * i) ∧ a 6 = S (17 + 19 * i)) ∧ (S (11 + 19 * i) ≠ 4 → a 7 = S (12 + 19 * i) ∧ a 8 = S (13 + 19 * i)) ∧ a 9 = nI (src S i) ∧ (a 1).toInt = lst S i
/-- what sensor i has received -/
def RR (a r : Nat → Int32) (S : Nat → Int32) (i : Nat) : Prop := a 12 = S (18 + 19 * i) ∧ (0 < gI S (18 + 19 * i) → a 14 = S (19 + 19 * i) ∧ a 15 = S (20 + 19 * i)) ∧ a 16 = S (21 + 19 * i) ∧ ∀ k : Nat, k < 8 → (k : Int) < gI S (21 + 19 * i) → r k = S (22 + 19 * i + k)
def RD (a : Nat → Int32) (S : Nat → Int32) (i : Nat) : Prop := a 10 = dm S i ∧ a 11 = pd S i
def RC (a r : Nat → Int32) (S : Nat → Int32) (j : Nat) : Prop := a 0 = S (163 + 27 * j) ∧ (S (163 + 27 * j) = 1 → (a 1 = S (164 + 27 * j) ∧ a 2 = S (165 + 27 * j) ∧ a 3 = S (166 + 27 * j) ∧ a 5 = S (167 + 27 * j) ∧ a 6 = S (168 + 27 * j) ∧ a 7 = S (169 + 27 * j) ∧ a 9 = S (171 + 27 * j) ∧ a 8 = (if S (168 + 27 * j) = 0 then -9 else S (170 + 27 * j))) ∧ ∀ d p : Nat, d < 6 → (d : Int) < gI S (168 + 27 * j) → p < 3 → r (((gI S (168 + 27 * j)).toNat - 1 - d) % 6 * 3 + p) = S (172 + 27 * j + 3 * d + p))
def RK (a : Nat → Int32) (S : Nat → Int32) (j : Nat) : Prop := S (163 + 27 * j) = 1 → (a 4).toInt = gI S (165 + 27 * j) / (pd S (S (164 + 27 * j)).toInt.toNat).toInt
def RH (σ : Mem) (q : Nat) (S : Nat → Int32) : Prop := RG σ q S ∧ RO σ q S ∧ RE σ q S ∧ (∀ i, i < nS S → RP (σ (q + 2 + (8 + 2 * i))) S i ∧ RR (σ (q + 2 + (8 + 2 * i))) (σ (q + 2 + (8 + 2 * i) + 1)) S i ∧ RD (σ (q + 2 + (8 + 2 * i))) S i) ∧ ∀ j, j < 8 → RC (σ (q + 3 + (23 + 2 * j))) (σ (q + 3 + (23 + 2 * j) + 1)) S j ∧ RK (σ (q + 3 + (23 + 2 * j))) S j
/-- the boolean field of each sensor of a hub is 0 or 1 -/
def FBq (σ : Mem) (q : Nat) : Prop := ∀ i, i < 8 → σ (q + 2 + (8 + 2 * i)) 13 = 0 ∨ σ (q + 2 + (8 + 2 * i)) 13 = 1
def FB (σ : Mem) : Prop := FBq σ 1 ∧ FBq σ 43 ∧ ∀ r, r < 5 → FBq σ (87 + 42 * r)
/-- between calls: the hub, the states of the history (the newest first), the text -/
def Inv (σ : Mem) : Prop := (WF (σ 300) ∧ gI (σ 300) 0 ≤ 9999 ∧ RH σ 1 (σ 300))
  ∧ ((0 ≤ (σ 85 0).toInt ∧ (σ 85 0).toInt ≤ 5) ∧ (0 ≤ (σ 85 1).toInt ∧ (σ 85 1).toInt < 5) ∧ σ 299 3 = σ 85 0 ∧ ∀ j : Nat, (j : Int) < (σ 85 0).toInt → WF (fun k => σ 301 (481 * ((σ 85 0).toInt.toNat - 1 - j) + k)) ∧ (σ 301 (481 * ((σ 85 0).toInt.toNat - 1 - j))).toInt ≤ 9999 ∧ RH σ (87 + 42 * (((σ 85 1).toInt.toNat + 4 - j) % 5)) (fun k => σ 301 (481 * ((σ 85 0).toInt.toNat - 1 - j) + k)))
  ∧ ((0 ≤ (σ 297 0).toInt ∧ (σ 297 0).toInt ≤ 160) ∧ σ 299 5 = σ 297 0 ∧ ∀ k : Nat, (k : Int) < (σ 297 0).toInt → σ 298 k = σ 302 k ∧ 1 ≤ (σ 298 k).toInt ∧ (σ 298 k).toInt ≤ 255)
  ∧ FB σ
/-- a call answers the same on both sides, one behind the other on one memory, and what holds between calls holds again -/
def Same (fx fm : Mem → Option (Int32 × Mem)) : Prop := ∀ σ, Inv σ → ∃ r σ1 σ2, fx σ = some (r, σ1) ∧ fm σ1 = some (r, σ2) ∧ Inv σ2
/-- at the beginning -/
theorem inv_Z9 : Inv Z9 := by
  have e0 : ∀ k, k ≠ 4 → Z9 300 k = 0 := fun k hk => by
    simp [Z9, wr, hk, Z7, Z6, Z5, Z4, Z3, Z2, Z1, Z0]
  have e4 : Z9 300 4 = 10 := by simp [Z9, wr]
  have c3 : Z9 1 3 = 10 := by simp [Z9, wr, Z7, Z6, Z5, Z4, Z3, Z2, Z1, Z0]
  have c0 : ∀ w k, w ≠ 300 → k ≠ 3 → Z9 w k = 0 := fun w k hw hk => by
    simp [Z9, wr, hw, hk, Z7, Z6, Z5, Z4, Z3, Z2, Z1, Z0]
  have c2 : ∀ w k, 1 < w → w < 43 → Z9 w k = 0 := fun w k h1 h2 => by
    have a1 : w ≠ 300 := by omega
    have a2 : w ≠ 299 := by omega
    have a3 : w ≠ 255 := by omega
    have a4 : w ≠ 213 := by omega
    have a5 : w ≠ 171 := by omega
    have a6 : w ≠ 129 := by omega
    have a7 : w ≠ 87 := by omega
    have a8 : w ≠ 43 := by omega
    have a9 : w ≠ 1 := by omega
    simp [Z9, wr, a1, a2, a3, a4, a5, a6, a7, a8, a9, Z7, Z6, Z5, Z4, Z3, Z2, Z1, Z0]
  have z0 : (0 : Int32).toInt = 0 := rfl
  have g0 : ∀ k, k ≠ 4 → gI (Z9 300) k = 0 := fun k hk => by
    show (Z9 300 k).toInt = 0
    rw [e0 k hk]; rfl
  have n0 : nS (Z9 300) = 0 := by
    show (Z9 300 1).toInt.toNat = 0
    rw [e0 1 (by decide)]; rfl
  refine ⟨⟨⟨?_, ?_, ?_, ?_⟩, ?_, ?_, ?_, ?_, ?_, ?_⟩, ⟨?_, ?_, ?_, ?_⟩, ⟨?_, ?_, ?_⟩, ?_⟩
  · refine ⟨?_, ?_, ?_, ?_, ?_, ?_, ?_⟩
    all_goals first
      | (rw [g0 0 (by decide)]; omega)
      | (rw [g0 6 (by decide), g0 0 (by decide)]; omega)
      | (rw [g0 1 (by decide)]; omega)
      | (rw [g0 2 (by decide)]; omega)
      | (rw [g0 3 (by decide)]; omega)
      | (show 1 ≤ (Z9 300 4).toInt ∧ (Z9 300 4).toInt ≤ 30; rw [e4]; decide)
      | (rw [g0 7 (by decide), g0 8 (by decide), g0 9 (by decide), g0 10 (by decide), g0 3 (by decide), g0 0 (by decide)]; omega)
  · intro i hi
    rw [n0] at hi
    omega
  · intro j hj
    exact Or.inl (e0 _ (by omega))
  · intro e he
    rw [g0 3 (by decide)] at he
    omega
  · rw [g0 0 (by decide)]; omega
  · refine ⟨?_, ?_, ?_, ?_, ?_, ?_⟩
    · rw [c0 1 0 (by decide) (by decide), e0 0 (by decide)]
    · rw [c0 1 1 (by decide) (by decide), e0 6 (by decide)]
    · rw [c0 1 2 (by decide) (by decide), e0 5 (by decide)]
    · rw [c3, e4]
    · rw [c0 1 4 (by decide) (by decide), e0 1 (by decide)]
    · intro c hc
      rw [c2 (1 + 1) c (by decide) (by decide), e0 _ (by omega)]
  · refine ⟨?_, fun o ho => ?_⟩
    · rw [c2 (1 + 4) 0 (by decide) (by decide), e0 2 (by decide)]
    · rw [g0 2 (by decide)] at ho
      omega
  · refine ⟨?_, fun e p he => ?_⟩
    · rw [c2 (1 + 8) 0 (by decide) (by decide), e0 3 (by decide)]
    · rw [g0 3 (by decide)] at he
      omega
  · intro i hi
    rw [n0] at hi
    omega
  · intro j hj
    refine ⟨⟨?_, fun h => ?_⟩, fun h => ?_⟩
    · rw [c2 _ 0 (by omega) (by omega), e0 _ (by omega)]
    · rw [e0 _ (by omega)] at h
      exact absurd h (by decide)
    · rw [e0 _ (by omega)] at h
      exact absurd h (by decide)
  · rw [c0 85 0 (by decide) (by decide)]; decide
  · rw [c0 85 1 (by decide) (by decide)]; decide
  · rw [c0 85 0 (by decide) (by decide)]
    simp [Z9, wr, Z7, Z6, Z5, Z4, Z3, Z2, Z1, Z0]
  · intro j hj
    rw [c0 85 0 (by decide) (by decide), z0] at hj
    omega
  · rw [c0 297 0 (by decide) (by decide)]; decide
  · rw [c0 297 0 (by decide) (by decide)]
    exact c0 299 5 (by decide) (by decide)
  · intro k hk
    rw [c0 297 0 (by decide) (by decide), z0] at hk
    omega
  · have fq : ∀ q, q + 26 < 300 → FBq Z9 q := fun q hq i hi => Or.inl (c0 _ 13 (by omega) (by decide))
    exact ⟨fq 1 (by decide), fq 43 (by decide), fun r hr => fq _ (by omega)⟩
