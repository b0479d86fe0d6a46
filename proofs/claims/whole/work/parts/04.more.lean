def lt {α β : Type} (x : α) (f : α → β) : β := f x
/-- the first n places of cell v, laid over those of cell w -/
def cpy (σ : Mem) (v w n : Nat) : Mem := fun b j => if b = w ∧ j < n then σ v j else σ b j
abbrev FU : Nat := 4096
section ROWS2
variable {ρ : Type} {X : CX} {p : Program} {l : Launch} {e : Env} {R : Room} {s : State} {m : MethodId} {args : Array Value} {below : List Frame} {meth : Method} {c : Code} {cc : ByteArray} {own : String} {nL ck sk : Nat} {Qf : ρ → Mem → State → Prop} {pc : Nat} {ls : List (Nat × Value)} {rest : List Value} {σ : Mem} {o o1 o2 : Option (ρ × Mem)}
theorem g_ltI {x : Int32} {f : Int32 → Option (ρ × Mem)} (k : ∀ y, y = x → G X p l e R s m args below meth c nL ck sk Qf pc ls (.int y :: rest) σ (f y)) : G X p l e R s m args below meth c nL ck sk Qf pc ls (.int x :: rest) σ (lt x f) := k x rfl
theorem g_ltM {st : List Value} {f : Mem → Option (ρ × Mem)} (k : ∀ τ, τ = σ → G X p l e R s m args below meth c nL ck sk Qf pc ls st τ (f τ)) : G X p l e R s m args below meth c nL ck sk Qf pc ls st σ (lt σ f) := k σ rfl
theorem g_sub {ls' : List (Nat × Value)} (ks : List Nat) (hp : lv_pick ls ks = ls') {st : List Value} (k : G X p l e R s m args below meth c nL ck sk Qf pc ls' st σ o) : G X p l e R s m args below meth c nL ck sk Qf pc ls st σ o :=
  fun r σ' ho H locs la hR hS hl => k r σ' ho H locs la hR hS (lv_sub hl ks hp)
theorem g_pt {q : Prop} [Decidable q] (hq : q) {st : List Value} (k : G X p l e R s m args below meth c nL ck sk Qf pc ls st σ (if q then o1 else none)) : G X p l e R s m args below meth c nL ck sk Qf pc ls st σ o1 := by rw [if_pos hq] at k; exact k
theorem g_pf {q : Prop} [Decidable q] (hq : ¬ q) {st : List Value} (k : G X p l e R s m args below meth c nL ck sk Qf pc ls st σ (if q then none else o1)) : G X p l e R s m args below meth c nL ck sk Qf pc ls st σ o1 := by rw [if_neg hq] at k; exact k
theorem g_ialdC (F : FR p s m args c cc nL own X) {v n : Nat} {i : Int32} (j : Nat) (hj : ib i n) (hn : i.toNatClampNeg = j) (hv : xs X v = 1000 + n) (d : decode cc pc = .ok (.iaload, 1))
    (k : G X p l e R s m args below meth c nL ck sk Qf (pc + 1) ls (.int (σ v j) :: rest) σ o) : G X p l e R s m args below meth c nL ck sk Qf pc ls (.int i :: .ref (xa X v) :: rest) σ o := by
  subst hn
  exact g_pt hj (g_iald F hv d k)
theorem g_iastC (F : FR p s m args c cc nL own X) {v n : Nat} {i x : Int32} (j : Nat) (hj : ib i n) (hn : i.toNatClampNeg = j) (hv : xs X v = 1000 + n) (d : decode cc pc = .ok (.iastore, 1))
    (k : G X p l e R s m args below meth c nL ck sk Qf (pc + 1) ls rest (wr σ v j x) o) : G X p l e R s m args below meth c nL ck sk Qf pc ls (.int x :: .int i :: .ref (xa X v) :: rest) σ o := by
  subst hn
  exact g_pt hj (g_iast F hv d k)
theorem g_tsIn (F : FR p s m args c cc nL own X) {dflt lo hi off : Int} {offs : Array Int} {len tgt : Nat} {x : Int32} (d : decode cc pc = .ok (.tableswitch dflt lo hi offs, len)) (v : Int32) (hx : x = v) (h1 : ¬ v.toInt < lo) (h2 : ¬ hi < v.toInt) (ho : offs[(v.toInt - lo).toNat]? = some off) (ht : (pc : Int) + off = (tgt : Int))
    (k : G X p l e R s m args below meth c nL ck sk Qf tgt ls rest σ o) : G X p l e R s m args below meth c nL ck sk Qf pc ls (.int x :: rest) σ o := by
  subst hx
  exact fun r σ' ho2 H locs la hR hS hl => lv_tableIn F.1 F.2.1 d h1 h2 ho ht (k r σ' ho2 H locs la hR hS hl)
theorem g_tsOut (F : FR p s m args c cc nL own X) {dflt lo hi : Int} {offs : Array Int} {len tgt : Nat} {x : Int32} (d : decode cc pc = .ok (.tableswitch dflt lo hi offs, len)) (h : x.toInt < lo ∨ hi < x.toInt) (ht : (pc : Int) + dflt = (tgt : Int))
    (k : G X p l e R s m args below meth c nL ck sk Qf tgt ls rest σ o) : G X p l e R s m args below meth c nL ck sk Qf pc ls (.int x :: rest) σ o :=
  fun r σ' ho2 H locs la hR hS hl => lv_tableOut F.1 F.2.1 d h ht (k r σ' ho2 H locs la hR hS hl)
theorem g_lks (F : FR p s m args c cc nL own X) {dflt off : Int} {ps : Array (Int × Int)} {len tgt : Nat} {x : Int32} (d : decode cc pc = .ok (.lookupswitch dflt ps, len)) (hp : (ps.toList.zip (ps.toList.drop 1)).all (fun (a, next) => a.1 < next.1) = true) (ho : Op.lookupswitch.offset ps.toList dflt x.toInt = off) (ht : (pc : Int) + off = (tgt : Int))
    (k : G X p l e R s m args below meth c nL ck sk Qf tgt ls rest σ o) : G X p l e R s m args below meth c nL ck sk Qf pc ls (.int x :: rest) σ o :=
  fun r σ' ho2 H locs la hR hS hl => lv_lookup F.1 F.2.1 d hp ho ht (k r σ' ho2 H locs la hR hS hl)
theorem g_lksC (F : FR p s m args c cc nL own X) {dflt off : Int} {ps : Array (Int × Int)} {len tgt : Nat} {x : Int32} (d : decode cc pc = .ok (.lookupswitch dflt ps, len)) (hp : (ps.toList.zip (ps.toList.drop 1)).all (fun (a, next) => a.1 < next.1) = true) (v : Int32) (hx : x = v) (ho : Op.lookupswitch.offset ps.toList dflt v.toInt = off) (ht : (pc : Int) + off = (tgt : Int))
    (k : G X p l e R s m args below meth c nL ck sk Qf tgt ls rest σ o) : G X p l e R s m args below meth c nL ck sk Qf pc ls (.int x :: rest) σ o := by
  subst hx
  exact g_lks F d hp ho ht k
theorem ts_ne {x v : Int32} (z : Int) (hz : v.toInt = z) (h : ¬ x = v) : ¬ x.toInt = z := fun q => h (Int32.toInt_inj.mp (q.trans hz.symm))
def CPY (own : String) (index : Nat) : Prop := Cond.methodLink own index arraycopyName ∈ gw ∧ Cond.native arraycopyName ∈ gw ∧ Cond.static arraycopyName ∈ gw ∧ Cond.initialized "java/lang/System" ∈ gw
theorem cpy_other {v w n b : Nat} (h : b ≠ w) : cpy σ v w n b = σ b := by
  funext j
  simp [cpy, h]
theorem g_copy (F : FR p s m args c cc nL own X) {v w n index : Nat} {nn : Int32} (hW : CPY own index) (hv : xs X v = 1000 + n) (hw : xs X w = 1000 + n) (hnn : nn.toInt = n)
    (hroom : 1 ≤ R.frames ∧ (rest.map fun v => v.category).sum + (nativeFrameWords "java/lang/System" "arraycopy" 5 + 11) ≤ R.locals) (d : decode cc pc = .ok (.invokestatic index, 3))
    (k : G X p l e R s m args below meth c nL ck sk Qf (pc + 3) ls rest (cpy σ v w n) o) : G X p l e R s m args below meth c nL ck sk Qf pc ls (.int nn :: .int 0 :: .ref (xa X w) :: .int 0 :: .ref (xa X v) :: rest) σ o := by
  intro r σ' ho H locs la hR hS hl T hT XX
  obtain ⟨h1, h2, h3, h4⟩ := hW
  have hts := F.2.2.2.2.1
  have hn3 : ¬ nn < 0 := by rw [Int32.lt_iff_toInt_lt, hnn]; simp
  have hnc : nn.toNatClampNeg = n := by show nn.toInt.toNat = n; rw [hnn]; rfl
  have hz : ¬ (0 : Int32) < 0 := by decide
  have hz0 : (0 : Int32).toNatClampNeg = 0 := by decide
  have hz1 : (0 : Int32).toInt = 0 := by decide
  have hc0 : H[xa X v]? = some (vp_cell (xc X 0) (n, .inl (σ v))) := rep_int hR hv
  have hc1 : H[xa X w]? = some (vp_cell (xc X 0) (n, .inl (σ w))) := rep_int hR hw
  have hA := F.2.2.2.2.2.1.2 0 _ (rfl : (tys X)[0]? = some (xc X 0, .int))
  obtain ⟨-, k0, hk0, cm0, hkk0⟩ := hA.1 n (fun j => .int (σ v j))
  obtain ⟨-, k1, hk1, cm1, hkk1⟩ := hA.1 n (fun j => .int (σ w j))
  obtain ⟨vm', X', step⟩ := XX.arraycopy F.1 F.2.2.2.1 (hts _ h1) (hts _ h2) (hts _ h3) (hts _ h4) (src := xa X v) (dst := xa X w) (cs := vp_cell (xc X 0) (n, .inl (σ v))) (cd := vp_cell (xc X 0) (n, .inl (σ w))) (srcPos := 0) (destPos := 0) (n := nn) (by rw [hT]; exact hc0) (by rw [hT]; exact hc1)
    (fun _ h => by cases h) (fun _ h => by cases h) (fun h => by cases h) (fun h => by cases h) hk0 hk1 hkk0 hkk1 (by simp [refKind]) hz hz hn3
    (by rw [hz1, hnn]; show ¬ _ > ((arrV (xc X 0) n (fun j => .int (σ v j))).slots.size : Int); rw [arrV_size]; omega)
    (by rw [hz1, hnn]; show ¬ _ > ((arrV (xc X 0) n (fun j => .int (σ w j))).slots.size : Int); rw [arrV_size]; omega)
    (fun vm₁ _ i hi => by
      have e : (vp_cell (xc X 0) (n, .inl (σ v))).slots.getD ((0 : Int32).toNatClampNeg + i) .null = .int (σ v ((0 : Int32).toNatClampNeg + i)) := by
        show (arrV (xc X 0) n (fun j => .int (σ v j))).slots.getD _ _ = _
        rw [Array.getD_eq_getD_getElem?, arrV_read _ _ (by rw [hz0]; omega)]
        rfl
      refine ⟨?_, ?_⟩
      · rw [e]
        rfl
      · rw [e]
        exact trivial)
    (g := F0 m pc la (.int nn :: .int 0 :: .ref (xa X w) :: .int 0 :: .ref (xa X v) :: rest)) rfl (by rw [F.2.2.1]; exact hl.1) (rest := rest) rfl (by rw [F.2.1]; exact d) hroom.1 (by have := hroom.2; show 2 * 0 + _ + _ ≤ _; omega)
  have e1 : copied (vp_cell (xc X 0) (n, .inl (σ v))) (vp_cell (xc X 0) (n, .inl (σ w))) 0 0 nn = vp_cell (xc X 0) (n, .inl (va_cpy (σ v) (σ w) (0 : Int32).toNatClampNeg (0 : Int32).toNatClampNeg nn.toNatClampNeg)) := va_copied (fun z => .int z) (xc X 0) (xc X 0) (σ v) (σ w) (by rw [hz0, hnc]; omega)
  rw [hz0, hnc] at e1
  rw [e1] at X' step
  have hl0 : xa X w < H.size := (Array.getElem?_eq_some_iff.mp hc1).1
  have hheap : ((T.setVm vm').setCell (xa X w) (vp_cell (xc X 0) (n, .inl (va_cpy (σ v) (σ w) 0 0 n)))).heap = H.setIfInBounds (xa X w) (vp_cell (xc X 0) (n, .inl (va_cpy (σ v) (σ w) 0 0 n))) := by rw [← hT]; rfl
  have oq : ∀ q : Nat, q ≠ xa X w → (H.setIfInBounds (xa X w) (vp_cell (xc X 0) (n, .inl (va_cpy (σ v) (σ w) 0 0 n))))[q]? = H[q]? := fun q hq => by simp [Array.getElem?_setIfInBounds, Ne.symm hq]
  have ecp : va_cpy (σ v) (σ w) 0 0 n = cpy σ v w n w := by
    funext j
    simp [va_cpy, cpy]
  have hself : (H.setIfInBounds (xa X w) (vp_cell (xc X 0) (n, .inl (va_cpy (σ v) (σ w) 0 0 n))))[xa X w]? = some (vp_cell (xc X 0) (n, .inl (cpy σ v w n w))) := by simp [Array.getElem?_setIfInBounds, hl0, ecp]
  have hRep := rep_set (σ2 := cpy σ v w n) (v := w) hR F.2.2.2.2.2 (by omega) (by
    rw [hw]
    have e2 : ce (xa X) (xc X) (cpy σ v w n w) (1000 + n) w = .inl (xc X 0, n, .inl (cpy σ v w n w)) := by
      unfold ce
      rw [if_pos (by omega)]
      simp
    rw [e2]
    exact hself) oq (by simp) (fun u hu => cpy_other hu)
  obtain ⟨t, a1, b1⟩ := k r σ' ho _ _ la hRep ⟨by simp; exact hS.1, fun q g1 g2 => by
      rw [oq q (fun e => g2 (by rw [e]; exact F.2.2.2.2.2.2.2.1 w (by omega)))]
      exact hS.2.1 q g1 g2, fun q hq => by
      rcases List.mem_append.mp hq with h | h
      · exact hS.2.2 q h
      · obtain ⟨z, -, hz⟩ := List.mem_map.mp h
        rw [← hz]
        exact F.2.2.2.2.2.2.2.1 w (by omega)⟩ hl _ hheap X'
  exact ⟨t, step t a1, b1⟩
theorem ib_lt {i : Int32} {n : Nat} (h : ib i n) : i.toNatClampNeg < n := by
  obtain ⟨h1, h2⟩ := h
  show i.toInt.toNat < n
  omega
theorem g_ldcS (F : FR p s m args c cc nL "SensorHub$Text" X) {index : Nat} (w : Nat) (hw : w < 6) (hi : ixS.getD w 0 = index) (d : decode cc pc = .ok (.ldc index, 2))
    (k : G X p l e R s m args below meth c nL ck sk Qf (pc + 2) ls (.ref (xk X w) :: rest) σ o) : G X p l e R s m args below meth c nL ck sk Qf pc ls rest σ o :=
  fun r σ' ho H locs la hR hS hl => va_ldcS F.1 F.2.1 F.2.2.2.1 (hi ▸ F.2.2.2.2.2.2.2.2.2.2.1 w hw) d (k r σ' ho H locs la hR hS hl)
theorem g_callVS {ρ' : Type} {vl : ρ' → Option Value} {y : MethodName} {bytes : ByteArray} {maxL dp n index w0 : Nat} {ret : Option FieldType} {As st : List Value} {oc : Option (ρ' × Mem)} {kf : ρ' → Mem → Option (ρ × Mem)}
    (F : FR p s m args c cc nL own X) (hw0 : w0 < 6) (hC : CT X l y bytes maxL ret dp vl (.ref (xk X w0) :: As) σ oc) (hW : CSV own index y bytes maxL ret n) (hcls : y.cls = "java/lang/String") (hst : st = As.reverse ++ .ref (xk X w0) :: rest) (hn : As.length = n) (hcat : (rest.map fun v => v.category).sum ≤ 8) (hroom : dp + 1 ≤ R.frames ∧ 8 + (maxL + 11) + 35 * dp ≤ R.locals) (hck : ck ≤ R.cells ∧ sk ≤ R.slots) (d : decode cc pc = .ok (.invokevirtual index, 3))
    (k : ∀ r2 σ2, oc = some (r2, σ2) → G X p l e R s m args below meth c nL ck sk Qf (pc + 3) ls ((vl r2).toList ++ rest) σ2 (kf r2 σ2)) : G X p l e R s m args below meth c nL ck sk Qf pc ls st σ (bd oc kf) := by
  subst hst
  cases ho2 : oc with
  | none => exact g_no
  | some w =>
    obtain ⟨r2, σ2⟩ := w
    intro r σ' ho H locs la hR hS hl
    obtain ⟨hlink, hinst, hsel, hini, hcode, hy, hpar⟩ := hW
    obtain ⟨hx, hb, hml, hown, hts, hcx⟩ := F
    have hlen : ∀ sig, parseMethodDescriptor y.desc = some sig → n = sig.parameters.length := fun sig h => by
      rw [h] at hpar
      exact (Option.some.inj hpar).symm
    have hws : ∀ w ∈ (Cond.code y bytes maxL ret :: gw), ∀ (a' : Array Value) (U : State), s.WarmedH U.vm → w.before a' U = true := fun w hw a' U hW => by
      have hw' : w ∈ gw := (List.mem_cons.mp hw).elim (fun q => by rw [q]; exact hcode) id
      exact word_at hW (good_of_word (gw_ok w hw')) (hts w hw')
    have hrec : ∃ cellB : Cell, H[xk X w0]? = some cellB ∧ cellB.vm.isStatics = false ∧ s.vm.findClass y.cls = some cellB.cls := by
      rw [hcls]
      exact vk_recv hcx.2.2.2.2.1 hw0 hS
    have run := va_runV (cells := ck) (slots := sk) (locs := locs) (H := H) (g := F0 m pc la (As.reverse ++ .ref (xk X w0) :: rest)) (rest := rest) (As := As) (b := xk X w0) (C := y.cls) (n := n) (p := p) (e := e) (R := R) (below := below) (meth := meth) ⟨hx, hb, hml, hown, hts⟩ (hC r2 σ2 ho2)
      ⟨⟨rfl, rfl, hroom.1, hroom.2, hws, List.mem_cons_self, hts _ hcode, hts _ hini, hy, hlen, hts _ hlink⟩, hts _ hinst, hts _ hsel⟩
      ⟨fun a U g mk q => ⟨q.1, q.2.1, Cx.same (u := U) (U := U.calling g mk a) rfl rfl q.2.2⟩, hrec, fun U hU hW => ⟨rfl, by rw [hU]; exact hR, Cx.warm hW (by rw [hU]; exact hS.2.1) hcx⟩⟩
      rfl hn hl.1 rfl (lv_room hcat) d hck
    intro T hT XX
    obtain ⟨v', st₀, t, T', L, h0, X', hL, e1, e2, hq2, hgo⟩ := run T hT XX
    obtain ⟨hv', hRep, hF⟩ := hq2
    cases hv'
    rw [← e1] at hRep
    obtain ⟨hz, hk⟩ := hF
    rw [h0, ← e1] at hz hk
    obtain ⟨t2, a1, b1⟩ := k r2 σ2 ho2 r σ' ho T'.heap (locs ++ L) la hRep ⟨Nat.le_trans hS.1 hz, fun q h1 h2 => by rw [hk q (Nat.lt_of_lt_of_le h1 hS.1) h2]; exact hS.2.1 q h1 h2, fun q hq => by
      rcases List.mem_append.mp hq with h | h
      · exact hS.2.2 q h
      · exact hL q h⟩ hl T' rfl X'
    exact ⟨t2, hgo t2 a1, b1⟩
end ROWS2
/-! which cells are a whole object of a class -/
def SensorOK (X : CX) (v : Nat) : Prop := xs X v = 5 ∧ xs X (v + 1) = 1008
def ClientOK (X : CX) (v : Nat) : Prop := xs X v = 1 ∧ xs X (v + 1) = 1018
def OutagesOK (X : CX) (v : Nat) : Prop := xs X v = 4 ∧ xs X (v + 1) = 1004 ∧ xs X (v + 2) = 1004 ∧ xs X (v + 3) = 1004
def StoreOK (X : CX) (v : Nat) : Prop := xs X v = 6 ∧ xs X (v + 1) = 1090
def TextOK (X : CX) (v : Nat) : Prop := xs X v = 7 ∧ xs X (v + 1) = 1160
def HubOK (X : CX) (q : Nat) : Prop := xs X q = 3 ∧ xs X (q + 1) = 1004 ∧ xs X (q + 2) = 21 ∧ xs X (q + 3) = 22 ∧ OutagesOK X (q + 4) ∧ StoreOK X (q + 8) ∧ (∀ i, i < 8 → SensorOK X (q + 2 + (8 + 2 * i))) ∧ ∀ i, i < 8 → ClientOK X (q + 3 + (23 + 2 * i))
def HistoryOK (X : CX) (v : Nat) : Prop := xs X v = 2 ∧ xs X (v + 1) = 23 ∧ ∀ i, i < 5 → HubOK X (v + 1 + (1 + 42 * i))
def TopOK (X : CX) (v : Nat) : Prop := xs X v = 8 ∧ HubOK X (v + 1) ∧ HubOK X (v + 43) ∧ HistoryOK X (v + 85) ∧ TextOK X (v + 297)
def ModelOK (X : CX) (v : Nat) : Prop := xs X v = 9 ∧ xs X (v + 1) = 1481 ∧ xs X (v + 2) = 3405 ∧ xs X (v + 3) = 1160 ∧ xs X (v + 4) = 1481 ∧ xs X (v + 5) = 1008 ∧ xs X (v + 6) = 1008 ∧ xs X (v + 7) = 1008 ∧ xs X (v + 8) = 20
