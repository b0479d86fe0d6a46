/-! the constructors: a world that grows; its cells lie one behind another from b on -/
abbrev KX (D : va_G) (b : Nat) (cA : Nat → ClassId) (kA : Nat → Nat) (sh : Nat → Nat) (k : Nat) : CX := (D, fun v => b + v, sh, cA, fun q => b ≤ q, kA, fun n => n = b + k)
def upn (sh : Nat → Nat) (v κ : Nat) : Nat → Nat := fun w => if w = v then κ else sh w
/-- what the tables say of arrays of objects -/
def AO (U : State) : Prop := va_AO "SensorHub$Sensor" U ∧ va_AO "SensorHub$Client" U ∧ va_AO "SensorHub$Hub" U
theorem AO.moved {u U : State} (hvm : u.vm.Alike U.vm) (h : AO u) : AO U := ⟨va_AO.moved hvm h.1, va_AO.moved hvm h.2.1, va_AO.moved hvm h.2.2⟩
def CN (X X' : CX) (l : Launch) (y : MethodName) (bytes : ByteArray) (maxL d mc ms : Nat) (av : List Value) (σ σ' : Mem) : Prop :=
  Met l y (.code y bytes maxL none :: gw) { frames := d, cells := mc, slots := ms, locals := 35 * d } (va_Pc av (fun U => Rep X σ U.heap ∧ Cx X U ∧ AO U)) (QC X' none σ') mc ms (xA X)
section NEW
variable {ρ : Type} {D : va_G} {b : Nat} {cA : Nat → ClassId} {kA sh : Nat → Nat} {kz : Nat} {p : Program} {l : Launch} {e : Env} {R : Room} {s : State} {m : MethodId} {args : Array Value} {below : List Frame} {meth : Method} {c : Code} {cc : ByteArray} {own : String} {nL ck sk : Nat} {Qf : ρ → Mem → State → Prop} {pc : Nat} {ls : List (Nat × Value)} {rest : List Value} {σ : Mem} {o : Option (ρ × Mem)}
theorem Cx.chg {sh' : Nat → Nat} {k' : Nat} {U : State} (h : Cx (KX D b cA kA sh kz) U) : Cx (KX D b cA kA sh' k') U :=
  ⟨h.1, fun v w _ _ e => by have e' : b + v = b + w := e; omega, fun v _ => Nat.le_add_right b v, h.2.2.2.1, h.2.2.2.2⟩
theorem FR.chg {sh' : Nat → Nat} {k' : Nat} (F : FR p s m args c cc nL own (KX D b cA kA sh kz)) : FR p s m args c cc nL own (KX D b cA kA sh' k') :=
  ⟨F.1, F.2.1, F.2.2.1, F.2.2.2.1, F.2.2.2.2.1, F.2.2.2.2.2.chg⟩
/-- one cell more -/
theorem rep_push {H H1 : Heap} {κ : Nat} (hR : Rep (KX D b cA kA sh kz) σ H) (z : H1.size = H.size + 1) (oq : ∀ q, q < H.size → H1[q]? = H[q]?) (h1 : va_at D classes (b + kz, ce (fun v => b + v) cA (σ kz) κ kz) H1) : Rep (KX D b cA kA (upn sh kz κ) (kz + 1)) σ H1 := by
  have hs : H.size = b + kz := hR.2
  refine ⟨fun w hw => ?_, by show H1.size = b + (kz + 1); omega⟩
  by_cases e : w = kz
  · subst e
    show va_at D classes (b + w, ce (fun v => b + v) cA (σ w) (upn sh w κ w) w) H1
    simp only [upn, if_true]
    exact h1
  · have hw' : sh w ≠ 0 := by
      have : upn sh kz κ w ≠ 0 := hw
      simpa [upn, e] using this
    have h := hR.1 w hw'
    show va_at D classes (b + w, ce (fun v => b + v) cA (σ w) (upn sh kz κ w) w) H1
    simp only [upn, if_neg e]
    exact h.kept (oq _ h.lt)
/-- one cell becomes of another kind, its numbers as they were -/
theorem rep_kind {H H1 : Heap} {v κ : Nat} (hR : Rep (KX D b cA kA sh kz) σ H) (z : H1.size = H.size) (oq : ∀ q, q ≠ b + v → H1[q]? = H[q]?) (h1 : va_at D classes (b + v, ce (fun v => b + v) cA (σ v) κ v) H1) : Rep (KX D b cA kA (upn sh v κ) kz) σ H1 := by
  refine ⟨fun w hw => ?_, by rw [z]; exact hR.2⟩
  by_cases e : w = v
  · subst e
    show va_at D classes (b + w, ce (fun v => b + v) cA (σ w) (upn sh w κ w) w) H1
    simp only [upn, if_true]
    exact h1
  · have hw' : sh w ≠ 0 := by
      have : upn sh v κ w ≠ 0 := hw
      simpa [upn, e] using this
    have h := hR.1 w hw'
    show va_at D classes (b + w, ce (fun v => b + v) cA (σ w) (upn sh v κ w) w) H1
    simp only [upn, if_neg e]
    exact h.kept (oq _ (by show b + w ≠ b + v; omega))
theorem g_new (F : FR p s m args c cc nL own (KX D b cA kA sh kz)) {index ci N : Nat} {C : String} {T : u_T} (ty : Nat → FieldType) (hc : classes[ci]? = some (C, T, N)) (hty : ∀ j, j < N → parseFieldDescriptor (T j).2.2.1 = some (ty j)) (hfs : ∀ j, j < N → defaultValue (ty j) = vp_V (fl (fun v => b + v) (fun _ => 0) kz (spc (100 + 10 * ci)) 0) j)
    (hcl : Cond.classLink own index C ∈ gw) (hinst : Cond.instantiable C N ∈ gw) (hini : Cond.initialized C ∈ gw) (hσ : σ kz = fun _ => 0) (hroom : ck + 1 ≤ R.cells ∧ sk + N ≤ R.slots) (d : decode cc pc = .ok (.new index, 3))
    (kk : G (KX D b cA kA (upn sh kz (100 + 10 * ci)) (kz + 1)) p l e R s m args below meth c nL (ck + 1) (sk + N) Qf (pc + 3) ls (.ref (b + kz) :: rest) σ o) : G (KX D b cA kA sh kz) p l e R s m args below meth c nL ck sk Qf pc ls rest σ o := by
  intro r σ' ho H locs la hR hS hl
  have hci : ci < 9 := (List.getElem?_eq_some_iff.mp hc).1
  have hts := F.2.2.2.2.1
  have hin := cls_in ci C T N hc
  have hKn := F.2.2.2.2.2.1.1 ci _ hc
  have hs : H.size = b + kz := hR.2
  refine W.newcK F.1 F.2.1 F.2.2.2.1 (hts _ hcl) (hts _ hinst) (hts _ hini) rfl d hroom.1 hroom.2 hKn.2.1 hs fun H1 kC hkC e1 z1 o1 => ?_
  refine kk r σ' ho H1 locs la (rep_push hR (by omega) (fun q hq => o1 q (by omega)) ?_) ⟨Nat.le_trans hS.1 (by omega), fun x h1 h2 => (o1 x (by have := hS.1; omega)).trans (hS.2.1 x h1 h2), hS.2.2⟩ hl
  rw [ce_obj (by omega), show cix (100 + 10 * ci) = ci from by unfold cix; rw [if_pos (by omega)]; omega, hσ]
  exact ⟨_, hc, (u_born ty hts hin hKn hkC e1 hty).to hfs⟩
theorem g_newaI (F : FR p s m args c cc nL own (KX D b cA kA sh kz)) {n : Int32} {N : Nat} (hw : Cond.arrayClass .int ∈ gw) (hn : n.toInt = N) (hN : N ≤ 65536) (hσ : σ kz = fun _ => 0) (hroom : ck + 1 ≤ R.cells ∧ sk + N ≤ R.slots) (d : decode cc pc = .ok (.newarray .int, 2))
    (kk : G (KX D b cA kA (upn sh kz (1000 + N)) (kz + 1)) p l e R s m args below meth c nL (ck + 1) (sk + N) Qf (pc + 2) ls (.ref (b + kz) :: rest) σ o) : G (KX D b cA kA sh kz) p l e R s m args below meth c nL ck sk Qf pc ls (.int n :: rest) σ o := by
  intro r σ' ho H locs la hR hS hl
  have hts := F.2.2.2.2.1
  have hs : H.size = b + kz := hR.2
  have hA := F.2.2.2.2.2.1.2 0 _ (rfl : (tys (KX D b cA kA sh kz))[0]? = some (cA 0, .int))
  have hn0 : ¬ n < 0 := by rw [Int32.lt_iff_toInt_lt, hn]; simp
  have hnc : n.toNatClampNeg = N := by show n.toInt.toNat = N; rw [hn]; rfl
  refine va_newaK (atype := .int) F.1 F.2.1 (hts _ hw) rfl d rfl hn0 hnc (by show N * 4 ≤ _; omega) hroom.1 hroom.2 hs fun H1 cA' e1 z1 o1 hAr hNm => ?_
  have hcA : cA' = cA 0 := by
    have h2 : s.vm.findClass ("[" ++ (FieldType.int).toString) = some (cA 0) := hA.2
    exact Option.some.inj (hNm.symm.trans h2)
  refine kk r σ' ho H1 locs la (rep_push hR (by omega) (fun q hq => o1 q (by omega)) ?_) ⟨Nat.le_trans hS.1 (by omega), fun x h1 h2 => (o1 x (by have := hS.1; omega)).trans (hS.2.1 x h1 h2), hS.2.2⟩ hl
  have ece : ce (fun v => b + v) cA (σ kz) (1000 + N) kz = .inl (cA 0, N, .inl (fun _ => 0)) := by
    unfold ce
    rw [if_pos (by omega), hσ]
    simp
  rw [ece]
  show H1[b + kz]? = some (vp_cell (cA 0) (N, .inl (fun _ => 0)))
  rw [e1, hcA]
  rfl
theorem g_newaZ (F : FR p s m args c cc nL own (KX D b cA kA sh kz)) (hw : Cond.arrayClass .boolean ∈ gw) (hσ : σ kz = fun _ => 0) (hroom : ck + 1 ≤ R.cells ∧ sk + 8 ≤ R.slots) (d : decode cc pc = .ok (.newarray .boolean, 2))
    (kk : G (KX D b cA kA (upn sh kz 20) (kz + 1)) p l e R s m args below meth c nL (ck + 1) (sk + 8) Qf (pc + 2) ls (.ref (b + kz) :: rest) σ o) : G (KX D b cA kA sh kz) p l e R s m args below meth c nL ck sk Qf pc ls (.int 8 :: rest) σ o := by
  intro r σ' ho H locs la hR hS hl
  have hts := F.2.2.2.2.1
  have hs : H.size = b + kz := hR.2
  have hA := F.2.2.2.2.2.1.2 1 _ (rfl : (tys (KX D b cA kA sh kz))[1]? = some (cA 1, .boolean))
  refine va_newaK (atype := .boolean) F.1 F.2.1 (hts _ hw) rfl d rfl (by decide) (by decide : (8 : Int32).toNatClampNeg = 8) (by decide) hroom.1 hroom.2 hs fun H1 cA' e1 z1 o1 hAr hNm => ?_
  have hcA : cA' = cA 1 := by
    have h2 : s.vm.findClass ("[" ++ (FieldType.boolean).toString) = some (cA 1) := hA.2
    exact Option.some.inj (hNm.symm.trans h2)
  refine kk r σ' ho H1 locs la (rep_push hR (by omega) (fun q hq => o1 q (by omega)) ?_) ⟨Nat.le_trans hS.1 (by omega), fun x h1 h2 => (o1 x (by have := hS.1; omega)).trans (hS.2.1 x h1 h2), hS.2.2⟩ hl
  have ece : ce (fun v => b + v) cA (σ kz) 20 kz = .inl (cA 1, 8, .inl (fun _ => 0)) := by rw [hσ]; rfl
  rw [ece]
  show H1[b + kz]? = some (vp_cell (cA 1) (8, .inl (fun _ => 0)))
  rw [e1, hcA]
  rfl
theorem g_newq (F : FR p s m args c cc nL own (KX D b cA kA sh kz)) {n : Int32} {index : Nat} (κ t N : Nat) (C : String) (ht : (tys (KX D b cA kA sh kz))[t]? = some (cA t, .object C)) (hAO : va_AO C s) (hcl : Cond.classLink own index C ∈ gw) (hn : n.toInt = N) (hκ : (κ = 200 ∧ t = 2 ∧ N = 8) ∨ (κ = 220 ∧ t = 3 ∧ N = 8) ∨ (κ = 240 ∧ t = 4 ∧ N = 5)) (hroom : ck + 1 ≤ R.cells ∧ sk + N ≤ R.slots) (d : decode cc pc = .ok (.anewarray index, 3))
    (kk : G (KX D b cA kA (upn sh kz κ) (kz + 1)) p l e R s m args below meth c nL (ck + 1) (sk + N) Qf (pc + 3) ls (.ref (b + kz) :: rest) σ o) : G (KX D b cA kA sh kz) p l e R s m args below meth c nL ck sk Qf pc ls (.int n :: rest) σ o := by
  intro r σ' ho H locs la hR hS hl
  have hts := F.2.2.2.2.1
  have hs : H.size = b + kz := hR.2
  have hA := F.2.2.2.2.2.1.2 t _ ht
  have hn0 : ¬ n < 0 := by rw [Int32.lt_iff_toInt_lt, hn]; simp
  have hnc : n.toNatClampNeg = N := by show n.toInt.toNat = N; rw [hn]; rfl
  subst hnc
  have hN8 : n.toNatClampNeg ≤ 8 := by omega
  refine W.anew F.1 F.2.1 F.2.2.2.1 (hts _ hcl) (va_AO.use hAO) rfl d rfl hn0 (by omega) hroom.1 hroom.2 fun cA' kA' comp f1 f2 f3 f4 => ?_
  have hcA : cA' = cA t := by
    obtain ⟨-, kA2, comp2, -, -, -, h4⟩ := hA
    exact Option.some.inj (f1.symm.trans h4)
  generalize hH1 : H.push ({ cls := cA', slots := Array.replicate n.toNatClampNeg .null, vm := .none } : Cell) = H1
  have z1 : H1.size = H.size + 1 := by rw [← hH1, Array.size_push]
  have e1 : H1[H.size]? = some (arrV cA' n.toNatClampNeg (fun _ => .null)) := by rw [← hH1, Array.getElem?_push_size, ← arrV_new]
  have o1 : ∀ q : Nat, q < H.size → H1[q]? = H[q]? := fun q hq => by rw [← hH1, Array.getElem?_push, if_neg (Nat.ne_of_lt hq)]
  rw [hs]
  refine kk r σ' ho H1 locs la (rep_push hR z1 o1 ?_) ⟨Nat.le_trans hS.1 (by omega), fun x h1 h2 => (o1 x (Nat.lt_of_lt_of_le h1 hS.1)).trans (hS.2.1 x h1 h2), hS.2.2⟩ hl
  rw [hs, hcA] at e1
  rcases hκ with ⟨rfl, rfl, h8⟩ | ⟨rfl, rfl, h8⟩ | ⟨rfl, rfl, h8⟩ <;> rw [h8] at e1
  · have ece : ce (fun v => b + v) cA (σ kz) 200 kz = .inl (cA 2, 8, .inr (.inr (.inr (.inr (fun j => if j < 0 then some (b + (kz + (8 + 2 * j))) else none))))) := rfl
    rw [ece]
    show H1[b + kz]? = some (vp_cell _ _)
    rw [vp_cell_q]
    exact e1
  · have ece : ce (fun v => b + v) cA (σ kz) 220 kz = .inl (cA 3, 8, .inr (.inr (.inr (.inr (fun j => if j < 0 then some (b + (kz + (23 + 2 * j))) else none))))) := rfl
    rw [ece]
    show H1[b + kz]? = some (vp_cell _ _)
    rw [vp_cell_q]
    exact e1
  · have ece : ce (fun v => b + v) cA (σ kz) 240 kz = .inl (cA 4, 5, .inr (.inr (.inr (.inr (fun j => if j < 0 then some (b + (kz + (1 + 42 * j))) else none))))) := rfl
    rw [ece]
    show H1[b + kz]? = some (vp_cell _ _)
    rw [vp_cell_q]
    exact e1
/-- a final reference field is set, in a constructor -/
theorem g_putR (F : FR p s m args c cc nL own (KX D b cA kA sh kz)) {v w index ci j N : Nat} {C : String} {T : u_T} (κ κ' : Nat) (ty : FieldType) (hc : classes[ci]? = some (C, T, N)) (hj : j < N) (hd : (T j).1 = C) (hown : C = own) (hlk : Cond.fieldLink own index C (T j).2.1 (T j).2.2.1 ∈ gw) (hfin : (T j).2.2.2 = true) (hin2 : meth.name = "<init>") (hty : parseFieldDescriptor (T j).2.2.1 = some ty) (hn : ∀ a, narrow ty (.ref a) = .ref a) (hfit : ∀ a, fits ty (.ref a) = true)
    (hv : sh v = κ) (hκ : 100 ≤ κ ∧ κ < 200 ∧ cix κ = ci) (hκ' : cix κ' = ci ∧ (κ' < 20 ∨ (100 ≤ κ' ∧ κ' < 200))) (hset : ∀ f : Nat → Int32, (fl (fun v => b + v) f v (spc κ) 0).set j (.ref (b + w)) = fl (fun v => b + v) f v (spc κ') 0) (hlen : j < (spc κ).length) (d : decode cc pc = .ok (.putfield index, 3))
    (kk : G (KX D b cA kA (upn sh v κ') kz) p l e R s m args below meth c nL ck sk Qf (pc + 3) ls rest σ o) : G (KX D b cA kA sh kz) p l e R s m args below meth c nL ck sk Qf pc ls (.ref (b + w) :: .ref (b + v) :: rest) σ o := by
  intro r σ' ho H locs la hR hS hl
  obtain ⟨ty0, htys, hnm⟩ := cls_ty ci C T N hc
  have hK := F.2.2.2.2.2.1
  have hts := F.2.2.2.2.1
  have hin := cls_in ci C T N hc
  have hap := va_apart (own := own) hts hin ty0 htys hnm hK hc
  have hob := hR.1 v (by show sh v ≠ 0; omega)
  have hob : va_at D classes (b + v, .inr (ci, fl (fun v => b + v) (σ v) v (spc κ) 0)) H := by
    have h2 : ce (fun v => b + v) cA (σ v) (sh v) v = .inr (ci, fl (fun v => b + v) (σ v) v (spc κ) 0) := by rw [hv, ce_obj (by omega), hκ.2.2]
    have h3 : va_at D classes (b + v, ce (fun v => b + v) cA (σ v) (sh v) v) H := hob
    rw [h2] at h3
    exact h3
  obtain ⟨rr, h1, cell, q1, q2, q3, q4⟩ := hob
  have hr : rr = (C, T, N) := Option.some.inj (h1.symm.trans hc)
  subst hr
  obtain ⟨hSl, hfc, kC, hkC, hkind⟩ := hK.1 ci _ hc
  obtain ⟨cf, kf, fi, f, hi, hsl⟩ := hSl j hj
  have hlay := hts _ (hin _ (u_in_lay hj))
  unfold u_lay at hlay
  rw [if_pos hfin] at hlay
  have hst := (u_facts hfc hkC (u_lays hts hin hj) hi).1
  have hcf : m.cls = cf := by
    obtain ⟨_, _, c', _, _, _, -, -, hf', -, -, -, hown2, -⟩ := Cond.laysFinal_spec hlay
    have e1 : c' = cf := by have := hi.symm.trans hf'; simp at this; exact this.1.symm
    rw [hd, hown] at hown2
    rw [← e1]; exact Option.some.inj (F.2.2.2.1.symm.trans hown2)
  have h6 := u_fits hfc hkC hkind (Or.inr hlay) hi hty (hn (b + w)) (hfit (b + w))
  refine W.putFinK F.1 F.2.1 F.2.2.2.1 (hts _ hlk) (by rw [hd] at hi; exact hi) hst hcf hin2 (by rw [q2]; exact h6) q1 q3 (by rw [hsl]; exact k2_hasslot (q4 j hj)) rfl rfl d fun H' e1 e2 e3 => ?_
  rw [hsl] at e1 ⊢
  refine kk r σ' ho H' _ la (rep_kind hR e2 e3 ?_) (hS.put e2 e3 (Nat.le_add_right b v)) hl
  rw [ce_obj hκ'.2, hκ'.1, ← hset]
  have hl2 : j < (fl (fun v => b + v) (σ v) v (spc κ) 0).length := by rw [fl_len]; exact hlen
  exact ⟨_, hc, t_OB.to (V := updV (vp_V _) j (.ref (b + w))) ⟨_, e1, q2, q3, t_set q4 hap hj (.ref (b + w))⟩ (fun q _ => vp_updV_set hl2 (.ref (b + w)) q)⟩
/-- an object goes into an array of objects, in a constructor -/
theorem g_aast (F : FR p s m args c cc nL own (KX D b cA kA sh kz)) {v w : Nat} {i : Int32} (j t n ci dd u base κ' full : Nat) (r0 : vw_C) (ht : (tys (KX D b cA kA sh kz))[t]? = some (cA t, .object r0.1)) (hc : classes[ci]? = some r0) (hv : sh v = base + j) (hj : j < n) (hi : i.toInt = j) (hκ' : κ' = if j + 1 = n then full else base + (j + 1)) (hk : (base = 200 ∧ full = 21 ∧ t = 2 ∧ n = 8 ∧ dd = 8 ∧ u = 2) ∨ (base = 220 ∧ full = 22 ∧ t = 3 ∧ n = 8 ∧ dd = 23 ∧ u = 2) ∨ (base = 240 ∧ full = 23 ∧ t = 4 ∧ n = 5 ∧ dd = 1 ∧ u = 42)) (hw : w = v + (dd + u * j)) (hwk : sh w = ci + 1) (d : decode cc pc = .ok (.aastore, 1))
    (kk : G (KX D b cA kA (upn sh v κ') kz) p l e R s m args below meth c nL ck sk Qf (pc + 1) ls rest σ o) : G (KX D b cA kA sh kz) p l e R s m args below meth c nL ck sk Qf pc ls (.ref (b + w) :: .int i :: .ref (b + v) :: rest) σ o := by
  intro r σ' ho H locs la hR hS hl
  have hK := F.2.2.2.2.2.1
  have hci : ci < 9 := (List.getElem?_eq_some_iff.mp hc).1
  have hi0 : ¬ i < 0 := by rw [Int32.lt_iff_toInt_lt, hi]; simp
  have hic : i.toNatClampNeg = j := by show i.toInt.toNat = j; rw [hi]; rfl
  have harr : H[b + v]? = some (vp_cell (cA t) (n, .inr (.inr (.inr (.inr (fun q => if q < j then some (b + (v + (dd + u * q))) else none)))))) := by
    have h := hR.1 v (by show sh v ≠ 0; omega)
    have h3 : va_at D classes (b + v, ce (fun v => b + v) cA (σ v) (sh v) v) H := h
    rw [hv] at h3
    have e : ce (fun v => b + v) cA (σ v) (base + j) v = .inl (cA t, n, .inr (.inr (.inr (.inr (fun q => if q < j then some (b + (v + (dd + u * q))) else none))))) := by
      rcases hk with ⟨rfl, rfl, rfl, rfl, rfl, rfl⟩ | ⟨rfl, rfl, rfl, rfl, rfl, rfl⟩ | ⟨rfl, rfl, rfl, rfl, rfl, rfl⟩ <;> unfold ce
      · rw [if_neg (by omega), if_neg (by omega), if_neg (by omega), if_neg (by omega), if_neg (by omega), if_neg (by omega), if_neg (by omega), if_pos (by omega)]; simp
      · rw [if_neg (by omega), if_neg (by omega), if_neg (by omega), if_neg (by omega), if_neg (by omega), if_neg (by omega), if_pos (by omega)]; simp
      · rw [if_neg (by omega), if_neg (by omega), if_neg (by omega), if_neg (by omega), if_neg (by omega), if_pos (by omega)]; simp
    rw [e] at h3
    exact h3
  have hobj : ∃ fs, va_at D classes (b + w, .inr (ci, fs)) H := ⟨_, rep_obj hR hwk hci⟩
  obtain ⟨fs, r', hr', cellV, g1, g2, g3, -⟩ := hobj
  have hcls := (hK.1 ci r0 hc).2
  obtain ⟨kA', comp, k1, k2, k3, -⟩ := (hK.2 t _ ht).2
  have hcomp : comp = D.1 ci := Option.some.inj (k3.symm.trans hcls.1)
  subst hcomp
  obtain ⟨kC, hkC, -⟩ := hcls.2
  refine W.aast F.1 F.2.1 harr (fun q h => by cases h) (fun h => by cases h) k1 k2 rfl hkC ⟨hi0, by show _ < (arrV _ _ _).slots.size; rw [arrV_size, hic]; exact hj⟩ g1 (fun q h => by rw [g3] at h; cases h) (by rw [g2]; exact hkC) (by rw [g2]; exact va_assign hcls) rfl rfl d fun H1 e z oq => ?_
  refine kk r σ' ho H1 _ la (rep_kind hR z oq ?_) (hS.put z oq (Nat.le_add_right b v)) hl
  have e2 : H1[b + v]? = some (vp_cell (cA t) (n, .inr (.inr (.inr (.inr (fun q => if q < j + 1 then some (b + (v + (dd + u * q))) else none)))))) := by
    rw [e, vp_cell_q, vp_cell_q, arrV_store, hic]
    congr 2
    funext q
    by_cases hq : q = j
    · subst hq
      simp [updV, va_rf, hw]
    · simp only [updV, if_neg hq]
      by_cases hq2 : q < j
      · rw [if_pos hq2, if_pos (by omega)]
      · rw [if_neg hq2, if_neg (by omega)]
  by_cases hf : j + 1 = n
  · rw [hκ', if_pos hf]
    have e3 : arrV (cA t) n (fun q => va_rf (if q < j + 1 then some (b + (v + (dd + u * q))) else none)) = arrV (cA t) n (fun q => va_rf (some (b + (v + (dd + u * q))))) := by
      show ({ cls := cA t, slots := Array.ofFn (n := n) fun q => va_rf (if q.val < j + 1 then some (b + (v + (dd + u * q.val))) else none), vm := .none } : Cell) = _
      have e4 : (Array.ofFn (n := n) fun q : Fin n => va_rf (if q.val < j + 1 then some (b + (v + (dd + u * q.val))) else none)) = Array.ofFn (n := n) fun q : Fin n => va_rf (some (b + (v + (dd + u * q.val)))) := by
        congr 1
        funext q
        rw [if_pos (by have := q.isLt; omega)]
      rw [e4]; rfl
    rw [vp_cell_q, e3] at e2
    rcases hk with ⟨rfl, rfl, rfl, rfl, rfl, rfl⟩ | ⟨rfl, rfl, rfl, rfl, rfl, rfl⟩ | ⟨rfl, rfl, rfl, rfl, rfl, rfl⟩ <;> exact e2
  · rw [hκ', if_neg hf]
    have e : ce (fun v => b + v) cA (σ v) (base + (j + 1)) v = .inl (cA t, n, .inr (.inr (.inr (.inr (fun q => if q < j + 1 then some (b + (v + (dd + u * q))) else none))))) := by
      rcases hk with ⟨rfl, rfl, rfl, rfl, rfl, rfl⟩ | ⟨rfl, rfl, rfl, rfl, rfl, rfl⟩ | ⟨rfl, rfl, rfl, rfl, rfl, rfl⟩ <;> unfold ce
      · rw [if_neg (by omega), if_neg (by omega), if_neg (by omega), if_neg (by omega), if_neg (by omega), if_neg (by omega), if_neg (by omega), if_pos (by omega)]; simp
      · rw [if_neg (by omega), if_neg (by omega), if_neg (by omega), if_neg (by omega), if_neg (by omega), if_neg (by omega), if_pos (by omega)]; simp
      · rw [if_neg (by omega), if_neg (by omega), if_neg (by omega), if_neg (by omega), if_neg (by omega), if_pos (by omega)]; simp
    rw [e]
    exact e2
theorem g_objInit {X : CX} (F : FR p s m args c cc nL own X) {v idx : Nat} (h1 : Cond.methodLink own idx objectInit ∈ gw) (h2 : Cond.instanceMethod objectInit ∈ gw) (h3 : Cond.code objectInit ⟨#[0xb1]⟩ 1 none ∈ gw) (hroom : 1 ≤ R.frames ∧ (rest.map fun v => v.category).sum + 12 ≤ R.locals) (d : decode cc pc = .ok (.invokespecial idx, 3))
    (kk : G X p l e R s m args below meth c nL ck sk Qf (pc + 3) ls rest σ o) : G X p l e R s m args below meth c nL ck sk Qf pc ls (.ref v :: rest) σ o :=
  fun r σ' ho H locs la hR hS hl => W.objInit F.1 F.2.1 F.2.2.2.1 (F.2.2.2.2.1 _ h1) (F.2.2.2.2.1 _ h2) (F.2.2.2.2.1 _ h3) rfl (by rw [F.2.2.1]; exact hl.1) rfl d hroom.1 (by have := hroom.2; show 2 * 0 + _ + 12 ≤ _; omega) (kk r σ' ho H locs la hR hS hl)
end NEW
