/-! the memory of the whole world: a cell's number, a place in it; only whole numbers ever change; references are set once by the constructors -/
abbrev Mem : Type := Nat → Nat → Int32
def wr (σ : Mem) (v k : Nat) (x : Int32) : Mem := fun b j => if b = v ∧ j = k then x else σ b j
abbrev CX : Type := va_G × (Nat → Nat) × (Nat → Nat) × (Nat → ClassId) × (Nat → Prop) × (Nat → Nat) × (Nat → Prop)
abbrev xD (X : CX) : va_G := X.1
abbrev xa (X : CX) : Nat → Nat := X.2.1
abbrev xs (X : CX) : Nat → Nat := X.2.2.1
abbrev xc (X : CX) : Nat → ClassId := X.2.2.2.1
abbrev xA (X : CX) : Nat → Prop := X.2.2.2.2.1
abbrev xk (X : CX) : Nat → Nat := X.2.2.2.2.2.1
abbrev xz (X : CX) : Nat → Prop := X.2.2.2.2.2.2
/-- an object's fields, by its list: none is a number, some d is the cell d places on -/
def fl (a : Nat → Nat) (f : Nat → Int32) (v : Nat) : List (Option Nat) → Nat → List Value
  | [], _ => []
  | none :: r, k => .int (f k) :: fl a f v r (k + 1)
  | some d :: r, k => (if d = 0 then .null else .ref (a (v + d))) :: fl a f v r (k + 1)
theorem fl_int {a : Nat → Nat} {f : Nat → Int32} {v : Nat} : ∀ (sp : List (Option Nat)) (k0 k : Nat), sp[k]? = some none → (fl a f v sp k0)[k]? = some (.int (f (k0 + k)))
  | [], _, _, h => by simp at h
  | x :: r, k0, 0, h => by
    simp at h
    subst h
    simp [fl]
  | x :: r, k0, k + 1, h => by
    have ih := fl_int (a := a) (f := f) (v := v) r (k0 + 1) k (by simpa using h)
    have e : k0 + (k + 1) = k0 + 1 + k := by omega
    rw [e]
    cases x <;> simpa [fl] using ih
theorem fl_ref {a : Nat → Nat} {f : Nat → Int32} {v d : Nat} (hd : d ≠ 0) : ∀ (sp : List (Option Nat)) (k0 k : Nat), sp[k]? = some (some d) → (fl a f v sp k0)[k]? = some (.ref (a (v + d)))
  | [], _, _, h => by simp at h
  | x :: r, k0, 0, h => by
    simp at h
    subst h
    simp [fl, hd]
  | x :: r, k0, k + 1, h => by
    have ih := fl_ref hd (a := a) (f := f) (v := v) r (k0 + 1) k (by simpa using h)
    cases x <;> simpa [fl] using ih
theorem fl_len {a : Nat → Nat} {f : Nat → Int32} {v : Nat} : ∀ (sp : List (Option Nat)) (k0 : Nat), (fl a f v sp k0).length = sp.length
  | [], _ => rfl
  | none :: r, k0 => by simp [fl, fl_len r (k0 + 1)]
  | some d :: r, k0 => by simp [fl, fl_len r (k0 + 1)]
theorem fl_ext {a : Nat → Nat} {f g : Nat → Int32} {v : Nat} : ∀ (sp : List (Option Nat)) (k0 : Nat), (∀ k, k0 ≤ k → f k = g k) → fl a f v sp k0 = fl a g v sp k0
  | [], _, _ => rfl
  | none :: r, k0, h => by simp only [fl]; rw [h k0 (Nat.le_refl _), fl_ext r (k0 + 1) (fun k hk => h k (by omega))]
  | some d :: r, k0, h => by simp only [fl]; rw [fl_ext r (k0 + 1) (fun k hk => h k (by omega))]
theorem fl_set {a : Nat → Nat} {f : Nat → Int32} {v : Nat} {x : Int32} : ∀ (sp : List (Option Nat)) (k0 k : Nat), sp[k]? = some none → (fl a f v sp k0).set k (.int x) = fl a (upd f (k0 + k) x) v sp k0
  | [], _, _, h => by simp at h
  | y :: r, k0, 0, h => by
    simp at h
    subst h
    simp only [fl, List.set_cons_zero]
    rw [fl_ext r (k0 + 1) (f := f) (g := upd f (k0 + 0) x) (fun k hk => by simp [upd]; omega)]
    simp [upd]
  | y :: r, k0, k + 1, h => by
    have ih := fl_set (a := a) (f := f) (v := v) (x := x) r (k0 + 1) k (by simpa using h)
    have e : k0 + (k + 1) = k0 + 1 + k := by omega
    rw [e]
    cases y with
    | none =>
      simp only [fl, List.set_cons_succ]
      rw [ih]
      have : ¬ k0 = k0 + 1 + k := by omega
      simp [upd, this]
    | some d => simp only [fl, List.set_cons_succ]; rw [ih]
/-- what stands at a cell of a kind: 1000 + n an int array of n places, 20 the boolean array, 21 to 23 the arrays of objects, 1 to 9 an object; 100 to 199 an object under construction, 200 and on an array of objects under construction -/
def ce (a : Nat → Nat) (cA : Nat → ClassId) (f : Nat → Int32) (κ v : Nat) : va_E :=
  if 1000 ≤ κ then .inl (cA 0, κ - 1000, .inl f) else
  if κ = 20 then .inl (cA 1, 8, .inl f) else
  if κ = 21 then .inl (cA 2, 8, .inr (.inr (.inr (.inr (fun j => some (a (v + (8 + 2 * j)))))))) else
  if κ = 22 then .inl (cA 3, 8, .inr (.inr (.inr (.inr (fun j => some (a (v + (23 + 2 * j)))))))) else
  if κ = 23 then .inl (cA 4, 5, .inr (.inr (.inr (.inr (fun j => some (a (v + (1 + 42 * j)))))))) else
  if 240 ≤ κ then .inl (cA 4, 5, .inr (.inr (.inr (.inr (fun j => if j < κ - 240 then some (a (v + (1 + 42 * j))) else none))))) else
  if 220 ≤ κ then .inl (cA 3, 8, .inr (.inr (.inr (.inr (fun j => if j < κ - 220 then some (a (v + (23 + 2 * j))) else none))))) else
  if 200 ≤ κ then .inl (cA 2, 8, .inr (.inr (.inr (.inr (fun j => if j < κ - 200 then some (a (v + (8 + 2 * j))) else none))))) else
  .inr (cix κ, fl a f v (spc κ) 0)
def Rep (X : CX) (σ : Mem) (H : Heap) : Prop := (∀ v, xs X v ≠ 0 → va_at (xD X) classes (xa X v, ce (xa X) (xc X) (σ v) (xs X v) v) H) ∧ xz X H.size
def tys (X : CX) : List (ClassId × FieldType) := [(xc X 0, .int), (xc X 1, .boolean), (xc X 2, .object "SensorHub$Sensor"), (xc X 3, .object "SensorHub$Client"), (xc X 4, .object "SensorHub$Hub")]
/-- links to a nest mate's private members -/
def nestL : List (String × Nat × MethodName × String) := [("SensorHub$Hub", 29, ⟨"SensorHub$Outages", "<init>", "()V"⟩, "SensorHub"), ("SensorHub$Hub", 36, ⟨"SensorHub$Store", "<init>", "()V"⟩, "SensorHub"), ("SensorHub$Hub", 41, ⟨"SensorHub$Sensor", "<init>", "()V"⟩, "SensorHub"), ("SensorHub$Hub", 42, ⟨"SensorHub$Client", "<init>", "()V"⟩, "SensorHub"), ("SensorHub$Hub", 97, ⟨"SensorHub", "isWithin", "(III)Z"⟩, "SensorHub"), ("SensorHub", 28, ⟨"SensorHub$Text", "<init>", "()V"⟩, "SensorHub"), ("SensorHub$Outages", 25, ⟨"SensorHub", "isWithin", "(III)Z"⟩, "SensorHub"), ("SensorHub$Store", 19, ⟨"SensorHub", "isWithin", "(III)Z"⟩, "SensorHub"), ("SensorHub$Hub", 156, ⟨"SensorHub", "quotient", "(II)I"⟩, "SensorHub"), ("SensorHub$Text", 19, ⟨"SensorHub", "isWithin", "(III)Z"⟩, "SensorHub"), ("SensorHub$Text", 79, ⟨"SensorHub", "greatestJitter", "(I)I"⟩, "SensorHub"), ("SensorHub$Hub", 230, ⟨"SensorHub", "remainder", "(II)I"⟩, "SensorHub"), ("SensorHub$Client", 47, ⟨"SensorHub", "remainder", "(II)I"⟩, "SensorHub"), ("SensorHub$Client", 59, ⟨"SensorHub", "isWithin", "(III)Z"⟩, "SensorHub")]
def Nests (U : State) : Prop := ∀ q ∈ nestL, va_Nw (.methodLinkNest q.1 q.2.1 q.2.2.1 q.2.2.2) U
/-- the String constants: length, bytes, place in the pool, text -/
def lenS : List Nat := [6, 3, 4, 3, 4, 6]
def bytS : List (List Int32) := [[115, 101, 110, 115, 111, 114], [115, 117, 109], [100, 105, 102, 102], [109, 97, 120], [109, 101, 97, 110], [111, 117, 116, 97, 103, 101]]
def ixS : List Nat := [43, 52, 58, 60, 62, 64]
def txS : List String := ["sensor", "sum", "diff", "max", "mean", "outage"]
def St (X : CX) (U : State) : Prop := vk_S 6 lenS bytS (xk X) (fun i => xk X (i + 6)) (xA X) U U.heap ∧ (∀ i, i < 6 → vk_R "SensorHub$Text" (ixS.getD i 0) (txS.getD i "") (xk X i) U) ∧ va_Z "java/lang/String" "COMPACT_STRINGS" "Z" (.int 1) (xA X) U U.heap ∧ va_Zq "jdk/internal/util/Preconditions" "SIOOBE_FORMATTER" "Ljava/util/function/BiFunction;" (xA X) U U.heap
/-- what the tables say of the classes; the cells are apart -/
def Cx (X : CX) (U : State) : Prop := va_K (xD X) classes (tys X) U ∧ (∀ v w, xs X v ≠ 0 → xs X w ≠ 0 → xa X v = xa X w → v = w) ∧ (∀ v, xs X v ≠ 0 → xA X (xa X v)) ∧ Nests U ∧ St X U
theorem Cx.same {X : CX} {u U : State} (hvm : u.vm = U.vm) (hh : U.heap = u.heap) (h : Cx X u) : Cx X U := by
  obtain ⟨h1, h2, h3, h4, s1, s2, s3, s4⟩ := h
  have ha : u.vm.Alike U.vm := by rw [hvm]; exact Vm.Alike.refl _
  exact ⟨va_K.moved ha h1, h2, h3, fun q hq => va_Nw.same rfl hvm (h4 q hq), by rw [hh]; exact vk_S.moved ha s1, fun i hi => vk_R.same hvm.symm (s2 i hi), by rw [hh]; exact va_Z.moved ha s3, by rw [hh]; exact va_Zq.moved ha s4⟩
theorem Cx.warm {X : CX} {s U : State} (hW : s.WarmedH U.vm) (hk : ∀ a : Nat, a < s.heap.size → ¬ xA X a → U.heap[a]? = s.heap[a]?) (h : Cx X s) : Cx X U := by
  obtain ⟨h1, h2, h3, h4, s1, s2, s3, s4⟩ := h
  exact ⟨va_K.moved hW.alike h1, h2, h3, fun q hq => va_Nw.warmM hW (h4 q hq), (vk_S.moved hW.alike s1).kept hk, fun i hi => vk_R.warm hW (s2 i hi), (va_Z.moved hW.alike s3).kept hk, (va_Zq.moved hW.alike s4).kept hk⟩
def FR (p : Program) (s : State) (m : MethodId) (args : Array Value) (c : Code) (cc : ByteArray) (nL : Nat) (own : String) (X : CX) : Prop :=
  p.tables.exec = Jvm.exec ∧ c.code = cc ∧ c.maxLocals = nL ∧ s.vm.findClass own = some m.cls ∧ (∀ w ∈ gw, w.before args s = true) ∧ Cx X s
def G {ρ : Type} (X : CX) (p : Program) (l : Launch) (e : Env) (R : Room) (s : State) (m : MethodId) (args : Array Value) (below : List Frame) (meth : Method) (c : Code) (nL ck sk : Nat) (Qf : ρ → Mem → State → Prop) (pc : Nat) (ls : List (Nat × Value)) (st : List Value) (σ : Mem) (o : Option (ρ × Mem)) : Prop :=
  ∀ r σ', o = some (r, σ') → ∀ (H : Heap) (locs : List Loc) (la : Array Slot), Rep X σ H → va_S (xA X) s.heap H locs → lv_has la nL ls → W p l e R s m args below meth c H locs ck sk (Qf r σ') (F0 m pc la st)
abbrev ib (i : Int32) (n : Nat) : Prop := 0 ≤ i.toInt ∧ i.toInt < (n : Int)
def bd {α β : Type} (o : Option (α × Mem)) (k : α → Mem → Option β) : Option β := match o with
  | none => none
  | some w => k w.1 w.2
def oe {β : Type} (o : Option Nat) (a : β) (b : Nat → β) : β := match o with
  | none => a
  | some v => b v
def QC (X : CX) (rv : Option Value) (σ' : Mem) : Array Value → State → Outcome → State → Prop := fun _ st oc t => oc = .returned rv ∧ Rep X σ' t.heap ∧ va_F (xA X) st t
def rmD (d : Nat) : Room := { frames := d, cells := 0, slots := 0, locals := 35 * d }
/-- a method's contract: from the memory σ it comes to the answer and the memory that o says, if o says one -/
def CT {ρ : Type} (X : CX) (l : Launch) (y : MethodName) (bytes : ByteArray) (maxL : Nat) (ret : Option FieldType) (d : Nat) (vl : ρ → Option Value) (av : List Value) (σ : Mem) (o : Option (ρ × Mem)) : Prop :=
  ∀ r σ', o = some (r, σ') → Met l y (.code y bytes maxL ret :: gw) (rmD d) (va_Pc av (fun U => Rep X σ U.heap ∧ Cx X U)) (QC X (vl r) σ') 0 0 (xA X)
def vI (r : Int32) : Option Value := some (.int r)
def vU (_ : Unit) : Option Value := none
def vQ (X : CX) (r : Option Nat) : Option Value := some (va_rf (r.map (xa X)))
/-- a field of a number or a reference, as an instruction of own links it -/
def FS (own : String) (index ci k : Nat) : Prop := ∃ C T N, classes[ci]? = some (C, T, N) ∧ k < N ∧ (T k).1 = C ∧ Cond.fieldLink own index C (T k).2.1 (T k).2.2.1 ∈ gw
def FW (own : String) (index ci k : Nat) (ty : FieldType) : Prop := ∃ C T N, classes[ci]? = some (C, T, N) ∧ k < N ∧ (T k).1 = C ∧ Cond.fieldLink own index C (T k).2.1 (T k).2.2.1 ∈ gw ∧ (T k).2.2.2 = false ∧ parseFieldDescriptor (T k).2.2.1 = some ty
section ROWS
variable {ρ : Type} {X : CX} {p : Program} {l : Launch} {e : Env} {R : Room} {s : State} {m : MethodId} {args : Array Value} {below : List Frame} {meth : Method} {c : Code} {cc : ByteArray} {own : String} {nL ck sk : Nat} {Qf : ρ → Mem → State → Prop} {pc : Nat} {ls : List (Nat × Value)} {rest : List Value} {σ : Mem} {o o1 o2 : Option (ρ × Mem)}
theorem g_no {st : List Value} : G X p l e R s m args below meth c nL ck sk Qf pc ls st σ none := fun _ _ h => by cases h
theorem g_if {q : Prop} [Decidable q] {st : List Value} (h1 : q → G X p l e R s m args below meth c nL ck sk Qf pc ls st σ o1) (h2 : ¬ q → G X p l e R s m args below meth c nL ck sk Qf pc ls st σ o2) : G X p l e R s m args below meth c nL ck sk Qf pc ls st σ (if q then o1 else o2) := by
  by_cases hq : q
  · rw [if_pos hq]; exact h1 hq
  · rw [if_neg hq]; exact h2 hq
theorem g_gd {q : Prop} [Decidable q] {st : List Value} (h1 : q → G X p l e R s m args below meth c nL ck sk Qf pc ls st σ o1) : G X p l e R s m args below meth c nL ck sk Qf pc ls st σ (if q then o1 else none) := g_if h1 (fun _ => g_no)
theorem g_iconst (F : FR p s m args c cc nL own X) {n : Int} {v : Int32} (d : decode cc pc = .ok (.iconst n, 1)) (hv : Int32.ofInt n = v)
    (k : G X p l e R s m args below meth c nL ck sk Qf (pc + 1) ls (.int v :: rest) σ o) : G X p l e R s m args below meth c nL ck sk Qf pc ls rest σ o :=
  fun r σ' ho H locs la hR hS hl => lv_iconst F.1 F.2.1 d hv (k r σ' ho H locs la hR hS hl)
theorem g_bipush (F : FR p s m args c cc nL own X) {n : Int} {v : Int32} (d : decode cc pc = .ok (.bipush n, 2)) (hv : (Int8.ofInt n).toInt32 = v)
    (k : G X p l e R s m args below meth c nL ck sk Qf (pc + 2) ls (.int v :: rest) σ o) : G X p l e R s m args below meth c nL ck sk Qf pc ls rest σ o :=
  fun r σ' ho H locs la hR hS hl => lv_bipush F.1 F.2.1 d hv (k r σ' ho H locs la hR hS hl)
theorem g_sipush (F : FR p s m args c cc nL own X) {n : Int} {v : Int32} (d : decode cc pc = .ok (.sipush n, 3)) (hv : (Int16.ofInt n).toInt32 = v)
    (k : G X p l e R s m args below meth c nL ck sk Qf (pc + 3) ls (.int v :: rest) σ o) : G X p l e R s m args below meth c nL ck sk Qf pc ls rest σ o :=
  fun r σ' ho H locs la hR hS hl => lv_sipush F.1 F.2.1 d hv (k r σ' ho H locs la hR hS hl)
theorem g_iload_n (F : FR p s m args c cc nL own X) {i : Fin 4} {x : Int32} (d : decode cc pc = .ok (.iload_n i, 1)) (n : Nat) (hk : ls[n]? = some ((i : Nat), .int x))
    (k : G X p l e R s m args below meth c nL ck sk Qf (pc + 1) ls (.int x :: rest) σ o) : G X p l e R s m args below meth c nL ck sk Qf pc ls rest σ o :=
  fun r σ' ho H locs la hR hS hl => lv_iload_n F.1 F.2.1 d rfl (lv_at hl n hk) (k r σ' ho H locs la hR hS hl)
theorem g_iload (F : FR p s m args c cc nL own X) {i : Nat} {x : Int32} (d : decode cc pc = .ok (.iload i, 2)) (n : Nat) (hk : ls[n]? = some (i, .int x))
    (k : G X p l e R s m args below meth c nL ck sk Qf (pc + 2) ls (.int x :: rest) σ o) : G X p l e R s m args below meth c nL ck sk Qf pc ls rest σ o :=
  fun r σ' ho H locs la hR hS hl => lv_iload F.1 F.2.1 d (lv_at hl n hk) (k r σ' ho H locs la hR hS hl)
theorem g_aload_n (F : FR p s m args c cc nL own X) {i : Fin 4} {x : Nat} (d : decode cc pc = .ok (.aload_n i, 1)) (n : Nat) (hk : ls[n]? = some ((i : Nat), .ref x))
    (k : G X p l e R s m args below meth c nL ck sk Qf (pc + 1) ls (.ref x :: rest) σ o) : G X p l e R s m args below meth c nL ck sk Qf pc ls rest σ o :=
  fun r σ' ho H locs la hR hS hl => lv_aload_n F.1 F.2.1 d rfl (lv_at hl n hk) (k r σ' ho H locs la hR hS hl)
theorem g_aload (F : FR p s m args c cc nL own X) {i : Nat} {x : Nat} (d : decode cc pc = .ok (.aload i, 2)) (n : Nat) (hk : ls[n]? = some (i, .ref x))
    (k : G X p l e R s m args below meth c nL ck sk Qf (pc + 2) ls (.ref x :: rest) σ o) : G X p l e R s m args below meth c nL ck sk Qf pc ls rest σ o :=
  fun r σ' ho H locs la hR hS hl => lv_aload F.1 F.2.1 d (lv_at hl n hk) (k r σ' ho H locs la hR hS hl)
theorem g_aload_nN (F : FR p s m args c cc nL own X) {i : Fin 4} (d : decode cc pc = .ok (.aload_n i, 1)) (n : Nat) (hk : ls[n]? = some ((i : Nat), .null))
    (k : G X p l e R s m args below meth c nL ck sk Qf (pc + 1) ls (.null :: rest) σ o) : G X p l e R s m args below meth c nL ck sk Qf pc ls rest σ o :=
  fun r σ' ho H locs la hR hS hl => lv_aload_nN F.1 F.2.1 d rfl (lv_at hl n hk) (k r σ' ho H locs la hR hS hl)
theorem g_aloadN (F : FR p s m args c cc nL own X) {i : Nat} (d : decode cc pc = .ok (.aload i, 2)) (n : Nat) (hk : ls[n]? = some (i, .null))
    (k : G X p l e R s m args below meth c nL ck sk Qf (pc + 2) ls (.null :: rest) σ o) : G X p l e R s m args below meth c nL ck sk Qf pc ls rest σ o :=
  fun r σ' ho H locs la hR hS hl => lv_aloadN F.1 F.2.1 d (lv_at hl n hk) (k r σ' ho H locs la hR hS hl)
theorem g_iadd (F : FR p s m args c cc nL own X) {x y : Int32} (d : decode cc pc = .ok (.iadd, 1))
    (k : G X p l e R s m args below meth c nL ck sk Qf (pc + 1) ls (.int (x + y) :: rest) σ o) : G X p l e R s m args below meth c nL ck sk Qf pc ls (.int y :: .int x :: rest) σ o :=
  fun r σ' ho H locs la hR hS hl => lv_iadd F.1 F.2.1 d (k r σ' ho H locs la hR hS hl)
theorem g_isub (F : FR p s m args c cc nL own X) {x y : Int32} (d : decode cc pc = .ok (.isub, 1))
    (k : G X p l e R s m args below meth c nL ck sk Qf (pc + 1) ls (.int (x - y) :: rest) σ o) : G X p l e R s m args below meth c nL ck sk Qf pc ls (.int y :: .int x :: rest) σ o :=
  fun r σ' ho H locs la hR hS hl => lv_isub F.1 F.2.1 d (k r σ' ho H locs la hR hS hl)
theorem g_imul (F : FR p s m args c cc nL own X) {x y : Int32} (d : decode cc pc = .ok (.imul, 1))
    (k : G X p l e R s m args below meth c nL ck sk Qf (pc + 1) ls (.int (x * y) :: rest) σ o) : G X p l e R s m args below meth c nL ck sk Qf pc ls (.int y :: .int x :: rest) σ o :=
  fun r σ' ho H locs la hR hS hl => lv_imul F.1 F.2.1 d (k r σ' ho H locs la hR hS hl)
theorem g_iand (F : FR p s m args c cc nL own X) {x y : Int32} (d : decode cc pc = .ok (.iand, 1))
    (k : G X p l e R s m args below meth c nL ck sk Qf (pc + 1) ls (.int (x &&& y) :: rest) σ o) : G X p l e R s m args below meth c nL ck sk Qf pc ls (.int y :: .int x :: rest) σ o :=
  fun r σ' ho H locs la hR hS hl => lv_iand F.1 F.2.1 d (k r σ' ho H locs la hR hS hl)
theorem g_ior (F : FR p s m args c cc nL own X) {x y : Int32} (d : decode cc pc = .ok (.ior, 1))
    (k : G X p l e R s m args below meth c nL ck sk Qf (pc + 1) ls (.int (x ||| y) :: rest) σ o) : G X p l e R s m args below meth c nL ck sk Qf pc ls (.int y :: .int x :: rest) σ o :=
  fun r σ' ho H locs la hR hS hl => lv_ior F.1 F.2.1 d (k r σ' ho H locs la hR hS hl)
theorem g_ixor (F : FR p s m args c cc nL own X) {x y : Int32} (d : decode cc pc = .ok (.ixor, 1))
    (k : G X p l e R s m args below meth c nL ck sk Qf (pc + 1) ls (.int (x ^^^ y) :: rest) σ o) : G X p l e R s m args below meth c nL ck sk Qf pc ls (.int y :: .int x :: rest) σ o :=
  fun r σ' ho H locs la hR hS hl => lv_ixor F.1 F.2.1 d (k r σ' ho H locs la hR hS hl)
theorem g_ishl (F : FR p s m args c cc nL own X) {x y : Int32} (d : decode cc pc = .ok (.ishl, 1))
    (k : G X p l e R s m args below meth c nL ck sk Qf (pc + 1) ls (.int (x <<< (y &&& 31)) :: rest) σ o) : G X p l e R s m args below meth c nL ck sk Qf pc ls (.int y :: .int x :: rest) σ o :=
  fun r σ' ho H locs la hR hS hl => lv_ishl F.1 F.2.1 d (k r σ' ho H locs la hR hS hl)
theorem g_ishr (F : FR p s m args c cc nL own X) {x y : Int32} (d : decode cc pc = .ok (.ishr, 1))
    (k : G X p l e R s m args below meth c nL ck sk Qf (pc + 1) ls (.int (x >>> (y &&& 31)) :: rest) σ o) : G X p l e R s m args below meth c nL ck sk Qf pc ls (.int y :: .int x :: rest) σ o :=
  fun r σ' ho H locs la hR hS hl => lv_ishr F.1 F.2.1 d (k r σ' ho H locs la hR hS hl)
theorem g_ineg (F : FR p s m args c cc nL own X) {x : Int32} (d : decode cc pc = .ok (.ineg, 1))
    (k : G X p l e R s m args below meth c nL ck sk Qf (pc + 1) ls (.int (-x) :: rest) σ o) : G X p l e R s m args below meth c nL ck sk Qf pc ls (.int x :: rest) σ o :=
  fun r σ' ho H locs la hR hS hl => lv_ineg F.1 F.2.1 d (k r σ' ho H locs la hR hS hl)
theorem g_dup (F : FR p s m args c cc nL own X) {v : Value} (d : decode cc pc = .ok (.dup, 1)) (hv : v.category = 1)
    (k : G X p l e R s m args below meth c nL ck sk Qf (pc + 1) ls (v :: v :: rest) σ o) : G X p l e R s m args below meth c nL ck sk Qf pc ls (v :: rest) σ o :=
  fun r σ' ho H locs la hR hS hl => lv_dup F.1 F.2.1 d hv (k r σ' ho H locs la hR hS hl)
theorem g_pop (F : FR p s m args c cc nL own X) {v : Value} (d : decode cc pc = .ok (.pop, 1)) (hv : v.category = 1)
    (k : G X p l e R s m args below meth c nL ck sk Qf (pc + 1) ls rest σ o) : G X p l e R s m args below meth c nL ck sk Qf pc ls (v :: rest) σ o :=
  fun r σ' ho H locs la hR hS hl => lv_pop F.1 F.2.1 d hv (k r σ' ho H locs la hR hS hl)
theorem g_dup2 (F : FR p s m args c cc nL own X) {v w : Value} (d : decode cc pc = .ok (.dup2, 1)) (hv : v.category = 1) (hw : w.category = 1)
    (k : G X p l e R s m args below meth c nL ck sk Qf (pc + 1) ls (v :: w :: v :: w :: rest) σ o) : G X p l e R s m args below meth c nL ck sk Qf pc ls (v :: w :: rest) σ o :=
  fun r σ' ho H locs la hR hS hl => lv_dup2_11 F.1 F.2.1 d hv hw (k r σ' ho H locs la hR hS hl)
theorem g_null (F : FR p s m args c cc nL own X) (d : decode cc pc = .ok (.aconst_null, 1))
    (k : G X p l e R s m args below meth c nL ck sk Qf (pc + 1) ls (.null :: rest) σ o) : G X p l e R s m args below meth c nL ck sk Qf pc ls rest σ o :=
  fun r σ' ho H locs la hR hS hl => lv_null F.1 F.2.1 d (k r σ' ho H locs la hR hS hl)
theorem g_goto (F : FR p s m args c cc nL own X) {off : Int} {tgt : Nat} (d : decode cc pc = .ok (.goto off, 3)) (ht : (pc : Int) + off = (tgt : Int))
    (k : G X p l e R s m args below meth c nL ck sk Qf tgt ls rest σ o) : G X p l e R s m args below meth c nL ck sk Qf pc ls rest σ o :=
  fun r σ' ho H locs la hR hS hl => lv_goto F.1 F.2.1 d ht (k r σ' ho H locs la hR hS hl)
theorem g_ifnull (F : FR p s m args c cc nL own X) {x : Nat} {off : Int} (d : decode cc pc = .ok (.ifnull off, 3))
    (k : G X p l e R s m args below meth c nL ck sk Qf (pc + 3) ls rest σ o) : G X p l e R s m args below meth c nL ck sk Qf pc ls (.ref x :: rest) σ o :=
  fun r σ' ho H locs la hR hS hl => lv_ifnull F.1 F.2.1 d (k r σ' ho H locs la hR hS hl)
theorem g_ifnullN (F : FR p s m args c cc nL own X) {off : Int} {tgt : Nat} (d : decode cc pc = .ok (.ifnull off, 3)) (ht : (pc : Int) + off = (tgt : Int))
    (k : G X p l e R s m args below meth c nL ck sk Qf tgt ls rest σ o) : G X p l e R s m args below meth c nL ck sk Qf pc ls (.null :: rest) σ o :=
  fun r σ' ho H locs la hR hS hl => lv_ifnullN F.1 F.2.1 d ht (k r σ' ho H locs la hR hS hl)
theorem g_ifnonnull (F : FR p s m args c cc nL own X) {x : Nat} {off : Int} {tgt : Nat} (d : decode cc pc = .ok (.ifnonnull off, 3)) (ht : (pc : Int) + off = (tgt : Int))
    (k : G X p l e R s m args below meth c nL ck sk Qf tgt ls rest σ o) : G X p l e R s m args below meth c nL ck sk Qf pc ls (.ref x :: rest) σ o :=
  fun r σ' ho H locs la hR hS hl => lv_ifnonnull F.1 F.2.1 d ht (k r σ' ho H locs la hR hS hl)
theorem g_ifnonnullN (F : FR p s m args c cc nL own X) {off : Int} (d : decode cc pc = .ok (.ifnonnull off, 3))
    (k : G X p l e R s m args below meth c nL ck sk Qf (pc + 3) ls rest σ o) : G X p l e R s m args below meth c nL ck sk Qf pc ls (.null :: rest) σ o :=
  fun r σ' ho H locs la hR hS hl => lv_ifnonnullN F.1 F.2.1 d (k r σ' ho H locs la hR hS hl)
theorem g_if_eq (F : FR p s m args c cc nL own X) {x : Int32} {off : Int} {tgt : Nat} (d : decode cc pc = .ok (.ifCond .eq off, 3)) (ht : (pc : Int) + off = (tgt : Int))
    (k1 : x = 0 → G X p l e R s m args below meth c nL ck sk Qf tgt ls rest σ o1) (k2 : ¬ x = 0 → G X p l e R s m args below meth c nL ck sk Qf (pc + 3) ls rest σ o2) : G X p l e R s m args below meth c nL ck sk Qf pc ls (.int x :: rest) σ (if x = 0 then o1 else o2) :=
  g_if (fun q r σ' ho H locs la hR hS hl => lv_if_eq F.1 F.2.1 d ht (fun z => k1 z r σ' ho H locs la hR hS hl) (fun z => absurd q z)) (fun q r σ' ho H locs la hR hS hl => lv_if_eq F.1 F.2.1 d ht (fun z => absurd z q) (fun z => k2 z r σ' ho H locs la hR hS hl))
theorem g_if_lt (F : FR p s m args c cc nL own X) {x : Int32} {off : Int} {tgt : Nat} (d : decode cc pc = .ok (.ifCond .lt off, 3)) (ht : (pc : Int) + off = (tgt : Int))
    (k1 : x < 0 → G X p l e R s m args below meth c nL ck sk Qf tgt ls rest σ o1) (k2 : ¬ x < 0 → G X p l e R s m args below meth c nL ck sk Qf (pc + 3) ls rest σ o2) : G X p l e R s m args below meth c nL ck sk Qf pc ls (.int x :: rest) σ (if x < 0 then o1 else o2) :=
  g_if (fun q r σ' ho H locs la hR hS hl => lv_if_lt F.1 F.2.1 d ht (fun z => k1 z r σ' ho H locs la hR hS hl) (fun z => absurd q z)) (fun q r σ' ho H locs la hR hS hl => lv_if_lt F.1 F.2.1 d ht (fun z => absurd z q) (fun z => k2 z r σ' ho H locs la hR hS hl))
theorem g_if_ge (F : FR p s m args c cc nL own X) {x : Int32} {off : Int} {tgt : Nat} (d : decode cc pc = .ok (.ifCond .ge off, 3)) (ht : (pc : Int) + off = (tgt : Int))
    (k1 : 0 ≤ x → G X p l e R s m args below meth c nL ck sk Qf tgt ls rest σ o1) (k2 : ¬ 0 ≤ x → G X p l e R s m args below meth c nL ck sk Qf (pc + 3) ls rest σ o2) : G X p l e R s m args below meth c nL ck sk Qf pc ls (.int x :: rest) σ (if 0 ≤ x then o1 else o2) :=
  g_if (fun q r σ' ho H locs la hR hS hl => lv_if_ge F.1 F.2.1 d ht (fun z => k1 z r σ' ho H locs la hR hS hl) (fun z => absurd q z)) (fun q r σ' ho H locs la hR hS hl => lv_if_ge F.1 F.2.1 d ht (fun z => absurd z q) (fun z => k2 z r σ' ho H locs la hR hS hl))
theorem g_if_gt (F : FR p s m args c cc nL own X) {x : Int32} {off : Int} {tgt : Nat} (d : decode cc pc = .ok (.ifCond .gt off, 3)) (ht : (pc : Int) + off = (tgt : Int))
    (k1 : 0 < x → G X p l e R s m args below meth c nL ck sk Qf tgt ls rest σ o1) (k2 : ¬ 0 < x → G X p l e R s m args below meth c nL ck sk Qf (pc + 3) ls rest σ o2) : G X p l e R s m args below meth c nL ck sk Qf pc ls (.int x :: rest) σ (if 0 < x then o1 else o2) :=
  g_if (fun q r σ' ho H locs la hR hS hl => lv_if_gt F.1 F.2.1 d ht (fun z => k1 z r σ' ho H locs la hR hS hl) (fun z => absurd q z)) (fun q r σ' ho H locs la hR hS hl => lv_if_gt F.1 F.2.1 d ht (fun z => absurd z q) (fun z => k2 z r σ' ho H locs la hR hS hl))
theorem g_if_le (F : FR p s m args c cc nL own X) {x : Int32} {off : Int} {tgt : Nat} (d : decode cc pc = .ok (.ifCond .le off, 3)) (ht : (pc : Int) + off = (tgt : Int))
    (k1 : x ≤ 0 → G X p l e R s m args below meth c nL ck sk Qf tgt ls rest σ o1) (k2 : ¬ x ≤ 0 → G X p l e R s m args below meth c nL ck sk Qf (pc + 3) ls rest σ o2) : G X p l e R s m args below meth c nL ck sk Qf pc ls (.int x :: rest) σ (if x ≤ 0 then o1 else o2) :=
  g_if (fun q r σ' ho H locs la hR hS hl => lv_if_le F.1 F.2.1 d ht (fun z => k1 z r σ' ho H locs la hR hS hl) (fun z => absurd q z)) (fun q r σ' ho H locs la hR hS hl => lv_if_le F.1 F.2.1 d ht (fun z => absurd z q) (fun z => k2 z r σ' ho H locs la hR hS hl))
theorem g_icmp_eq (F : FR p s m args c cc nL own X) {x y : Int32} {off : Int} {tgt : Nat} (d : decode cc pc = .ok (.if_icmp .eq off, 3)) (ht : (pc : Int) + off = (tgt : Int))
    (k1 : x = y → G X p l e R s m args below meth c nL ck sk Qf tgt ls rest σ o1) (k2 : ¬ x = y → G X p l e R s m args below meth c nL ck sk Qf (pc + 3) ls rest σ o2) : G X p l e R s m args below meth c nL ck sk Qf pc ls (.int y :: .int x :: rest) σ (if x = y then o1 else o2) :=
  g_if (fun q r σ' ho H locs la hR hS hl => lv_icmp_eq F.1 F.2.1 d ht (fun z => k1 z r σ' ho H locs la hR hS hl) (fun z => absurd q z)) (fun q r σ' ho H locs la hR hS hl => lv_icmp_eq F.1 F.2.1 d ht (fun z => absurd z q) (fun z => k2 z r σ' ho H locs la hR hS hl))
theorem g_icmp_lt (F : FR p s m args c cc nL own X) {x y : Int32} {off : Int} {tgt : Nat} (d : decode cc pc = .ok (.if_icmp .lt off, 3)) (ht : (pc : Int) + off = (tgt : Int))
    (k1 : x < y → G X p l e R s m args below meth c nL ck sk Qf tgt ls rest σ o1) (k2 : ¬ x < y → G X p l e R s m args below meth c nL ck sk Qf (pc + 3) ls rest σ o2) : G X p l e R s m args below meth c nL ck sk Qf pc ls (.int y :: .int x :: rest) σ (if x < y then o1 else o2) :=
  g_if (fun q r σ' ho H locs la hR hS hl => lv_icmp_lt F.1 F.2.1 d ht (fun z => k1 z r σ' ho H locs la hR hS hl) (fun z => absurd q z)) (fun q r σ' ho H locs la hR hS hl => lv_icmp_lt F.1 F.2.1 d ht (fun z => absurd z q) (fun z => k2 z r σ' ho H locs la hR hS hl))
theorem g_icmp_ge (F : FR p s m args c cc nL own X) {x y : Int32} {off : Int} {tgt : Nat} (d : decode cc pc = .ok (.if_icmp .ge off, 3)) (ht : (pc : Int) + off = (tgt : Int))
    (k1 : y ≤ x → G X p l e R s m args below meth c nL ck sk Qf tgt ls rest σ o1) (k2 : ¬ y ≤ x → G X p l e R s m args below meth c nL ck sk Qf (pc + 3) ls rest σ o2) : G X p l e R s m args below meth c nL ck sk Qf pc ls (.int y :: .int x :: rest) σ (if y ≤ x then o1 else o2) :=
  g_if (fun q r σ' ho H locs la hR hS hl => lv_icmp_ge F.1 F.2.1 d ht (fun z => k1 z r σ' ho H locs la hR hS hl) (fun z => absurd q z)) (fun q r σ' ho H locs la hR hS hl => lv_icmp_ge F.1 F.2.1 d ht (fun z => absurd z q) (fun z => k2 z r σ' ho H locs la hR hS hl))
theorem g_icmp_gt (F : FR p s m args c cc nL own X) {x y : Int32} {off : Int} {tgt : Nat} (d : decode cc pc = .ok (.if_icmp .gt off, 3)) (ht : (pc : Int) + off = (tgt : Int))
    (k1 : y < x → G X p l e R s m args below meth c nL ck sk Qf tgt ls rest σ o1) (k2 : ¬ y < x → G X p l e R s m args below meth c nL ck sk Qf (pc + 3) ls rest σ o2) : G X p l e R s m args below meth c nL ck sk Qf pc ls (.int y :: .int x :: rest) σ (if y < x then o1 else o2) :=
  g_if (fun q r σ' ho H locs la hR hS hl => lv_icmp_gt F.1 F.2.1 d ht (fun z => k1 z r σ' ho H locs la hR hS hl) (fun z => absurd q z)) (fun q r σ' ho H locs la hR hS hl => lv_icmp_gt F.1 F.2.1 d ht (fun z => absurd z q) (fun z => k2 z r σ' ho H locs la hR hS hl))
theorem g_icmp_le (F : FR p s m args c cc nL own X) {x y : Int32} {off : Int} {tgt : Nat} (d : decode cc pc = .ok (.if_icmp .le off, 3)) (ht : (pc : Int) + off = (tgt : Int))
    (k1 : x ≤ y → G X p l e R s m args below meth c nL ck sk Qf tgt ls rest σ o1) (k2 : ¬ x ≤ y → G X p l e R s m args below meth c nL ck sk Qf (pc + 3) ls rest σ o2) : G X p l e R s m args below meth c nL ck sk Qf pc ls (.int y :: .int x :: rest) σ (if x ≤ y then o1 else o2) :=
  g_if (fun q r σ' ho H locs la hR hS hl => lv_icmp_le F.1 F.2.1 d ht (fun z => k1 z r σ' ho H locs la hR hS hl) (fun z => absurd q z)) (fun q r σ' ho H locs la hR hS hl => lv_icmp_le F.1 F.2.1 d ht (fun z => absurd z q) (fun z => k2 z r σ' ho H locs la hR hS hl))
theorem g_if_ne (F : FR p s m args c cc nL own X) {x : Int32} {off : Int} {tgt : Nat} (d : decode cc pc = .ok (.ifCond .ne off, 3)) (ht : (pc : Int) + off = (tgt : Int))
    (k1 : x = 0 → G X p l e R s m args below meth c nL ck sk Qf (pc + 3) ls rest σ o1) (k2 : ¬ x = 0 → G X p l e R s m args below meth c nL ck sk Qf tgt ls rest σ o2) : G X p l e R s m args below meth c nL ck sk Qf pc ls (.int x :: rest) σ (if x = 0 then o1 else o2) :=
  g_if (fun q r σ' ho H locs la hR hS hl => lv_if_ne F.1 F.2.1 d ht (fun z => absurd q z) (fun z => k1 q r σ' ho H locs la hR hS hl)) (fun q r σ' ho H locs la hR hS hl => lv_if_ne F.1 F.2.1 d ht (fun z => k2 z r σ' ho H locs la hR hS hl) (fun z => k2 q r σ' ho H locs la hR hS hl |> fun _ => (q z).elim))
theorem g_icmp_ne (F : FR p s m args c cc nL own X) {x y : Int32} {off : Int} {tgt : Nat} (d : decode cc pc = .ok (.if_icmp .ne off, 3)) (ht : (pc : Int) + off = (tgt : Int))
    (k1 : x = y → G X p l e R s m args below meth c nL ck sk Qf (pc + 3) ls rest σ o1) (k2 : ¬ x = y → G X p l e R s m args below meth c nL ck sk Qf tgt ls rest σ o2) : G X p l e R s m args below meth c nL ck sk Qf pc ls (.int y :: .int x :: rest) σ (if x = y then o1 else o2) :=
  g_if (fun q r σ' ho H locs la hR hS hl => lv_icmp_ne F.1 F.2.1 d ht (fun z => absurd q z) (fun z => k1 q r σ' ho H locs la hR hS hl)) (fun q r σ' ho H locs la hR hS hl => lv_icmp_ne F.1 F.2.1 d ht (fun z => k2 z r σ' ho H locs la hR hS hl) (fun z => k2 q r σ' ho H locs la hR hS hl |> fun _ => (q z).elim))
theorem g_idiv (F : FR p s m args c cc nL own X) {x y : Int32} (d : decode cc pc = .ok (.idiv, 1))
    (k : G X p l e R s m args below meth c nL ck sk Qf (pc + 1) ls (.int (x / y) :: rest) σ o) : G X p l e R s m args below meth c nL ck sk Qf pc ls (.int y :: .int x :: rest) σ (if y = 0 then none else o) :=
  g_if (fun _ => g_no) (fun q r σ' ho H locs la hR hS hl => lv_idiv F.1 F.2.1 d q (k r σ' ho H locs la hR hS hl))
theorem g_irem (F : FR p s m args c cc nL own X) {x y : Int32} (d : decode cc pc = .ok (.irem, 1))
    (k : G X p l e R s m args below meth c nL ck sk Qf (pc + 1) ls (.int (x - x / y * y) :: rest) σ o) : G X p l e R s m args below meth c nL ck sk Qf pc ls (.int y :: .int x :: rest) σ (if y = 0 then none else o) :=
  g_if (fun _ => g_no) (fun q r σ' ho H locs la hR hS hl => lv_irem F.1 F.2.1 d q (k r σ' ho H locs la hR hS hl))
theorem g_istore (F : FR p s m args c cc nL own X) {i : Nat} {x : Int32} {ls' : List (Nat × Value)} (d : decode cc pc = .ok (.istore i, 2)) (hn : i < nL) (hf : (i, Value.int x) :: ls.filter (fun q => !(q.1 == i) && !(q.1 + 1 == i && q.2.category == 2)) = ls')
    (k : G X p l e R s m args below meth c nL ck sk Qf (pc + 2) ls' rest σ o) : G X p l e R s m args below meth c nL ck sk Qf pc ls (Value.int x :: rest) σ o :=
  fun r σ' ho H locs la hR hS hl => lv_istore F.1 F.2.1 d hl hn hf (fun la hl => k r σ' ho H locs la hR hS hl)
theorem g_istore_n (F : FR p s m args c cc nL own X) {i : Fin 4} {x : Int32} {ls' : List (Nat × Value)} (d : decode cc pc = .ok (.istore_n i, 1)) (hn : (i : Nat) < nL) (hf : ((i : Nat), Value.int x) :: ls.filter (fun q => !(q.1 == (i : Nat)) && !(q.1 + 1 == (i : Nat) && q.2.category == 2)) = ls')
    (k : G X p l e R s m args below meth c nL ck sk Qf (pc + 1) ls' rest σ o) : G X p l e R s m args below meth c nL ck sk Qf pc ls (Value.int x :: rest) σ o :=
  fun r σ' ho H locs la hR hS hl => lv_istore_n F.1 F.2.1 d rfl hl hn hf (fun la hl => k r σ' ho H locs la hR hS hl)
theorem g_astore (F : FR p s m args c cc nL own X) {i : Nat} {x : Nat} {ls' : List (Nat × Value)} (d : decode cc pc = .ok (.astore i, 2)) (hn : i < nL) (hf : (i, Value.ref x) :: ls.filter (fun q => !(q.1 == i) && !(q.1 + 1 == i && q.2.category == 2)) = ls')
    (k : G X p l e R s m args below meth c nL ck sk Qf (pc + 2) ls' rest σ o) : G X p l e R s m args below meth c nL ck sk Qf pc ls (Value.ref x :: rest) σ o :=
  fun r σ' ho H locs la hR hS hl => lv_astore F.1 F.2.1 d hl hn hf (fun la hl => k r σ' ho H locs la hR hS hl)
theorem g_astore_n (F : FR p s m args c cc nL own X) {i : Fin 4} {x : Nat} {ls' : List (Nat × Value)} (d : decode cc pc = .ok (.astore_n i, 1)) (hn : (i : Nat) < nL) (hf : ((i : Nat), Value.ref x) :: ls.filter (fun q => !(q.1 == (i : Nat)) && !(q.1 + 1 == (i : Nat) && q.2.category == 2)) = ls')
    (k : G X p l e R s m args below meth c nL ck sk Qf (pc + 1) ls' rest σ o) : G X p l e R s m args below meth c nL ck sk Qf pc ls (Value.ref x :: rest) σ o :=
  fun r σ' ho H locs la hR hS hl => lv_astore_n F.1 F.2.1 d rfl hl hn hf (fun la hl => k r σ' ho H locs la hR hS hl)
theorem g_astoreN (F : FR p s m args c cc nL own X) {i : Nat}  {ls' : List (Nat × Value)} (d : decode cc pc = .ok (.astore i, 2)) (hn : i < nL) (hf : (i, Value.null) :: ls.filter (fun q => !(q.1 == i) && !(q.1 + 1 == i && q.2.category == 2)) = ls')
    (k : G X p l e R s m args below meth c nL ck sk Qf (pc + 2) ls' rest σ o) : G X p l e R s m args below meth c nL ck sk Qf pc ls (Value.null :: rest) σ o :=
  fun r σ' ho H locs la hR hS hl => lv_astoreN F.1 F.2.1 d hl hn hf (fun la hl => k r σ' ho H locs la hR hS hl)
theorem g_astore_nN (F : FR p s m args c cc nL own X) {i : Fin 4}  {ls' : List (Nat × Value)} (d : decode cc pc = .ok (.astore_n i, 1)) (hn : (i : Nat) < nL) (hf : ((i : Nat), Value.null) :: ls.filter (fun q => !(q.1 == (i : Nat)) && !(q.1 + 1 == (i : Nat) && q.2.category == 2)) = ls')
    (k : G X p l e R s m args below meth c nL ck sk Qf (pc + 1) ls' rest σ o) : G X p l e R s m args below meth c nL ck sk Qf pc ls (Value.null :: rest) σ o :=
  fun r σ' ho H locs la hR hS hl => lv_astore_nN F.1 F.2.1 d rfl hl hn hf (fun la hl => k r σ' ho H locs la hR hS hl)
theorem g_iinc (F : FR p s m args c cc nL own X) {i : Nat} {n : Int} {x v : Int32} {ls' : List (Nat × Value)} (d : decode cc pc = .ok (.iinc i n, 3)) (j : Nat) (hk : ls[j]? = some (i, .int x)) (hv : Int32.ofInt n = v) (hn : i < nL) (hf : (i, Value.int (x + v)) :: ls.filter (fun q => !(q.1 == i) && !(q.1 + 1 == i && q.2.category == 2)) = ls')
    (k : G X p l e R s m args below meth c nL ck sk Qf (pc + 3) ls' rest σ o) : G X p l e R s m args below meth c nL ck sk Qf pc ls rest σ o :=
  fun r σ' ho H locs la hR hS hl => lv_iinc F.1 F.2.1 d hl hk (by rw [hv]) hn hf (fun la hl => k r σ' ho H locs la hR hS hl)
/-! rows of the memory -/
theorem rep_int {v : Nat} {H : Heap} {n : Nat} (hR : Rep X σ H) (hv : xs X v = 1000 + n) : H[xa X v]? = some (vp_cell (xc X 0) (n, .inl (σ v))) := by
  have h := hR.1 v (by omega)
  rw [hv] at h
  have e : ce (xa X) (xc X) (σ v) (1000 + n) v = .inl (xc X 0, n, .inl (σ v)) := by
    unfold ce
    rw [if_pos (by omega)]
    simp
  rw [e] at h
  exact h
theorem g_iald (F : FR p s m args c cc nL own X) {v n : Nat} {i : Int32} (hv : xs X v = 1000 + n) (d : decode cc pc = .ok (.iaload, 1))
    (k : G X p l e R s m args below meth c nL ck sk Qf (pc + 1) ls (.int (σ v i.toNatClampNeg) :: rest) σ o) : G X p l e R s m args below meth c nL ck sk Qf pc ls (.int i :: .ref (xa X v) :: rest) σ (if ib i n then o else none) :=
  g_gd (fun hib r σ' ho H locs la hR hS hl => by
    have hin := vp_in_iff.mpr hib
    have hlt : i.toNatClampNeg < n := Nat.not_le.mp fun q => hin (Or.inr q)
    exact W.iald (v := .int (σ v i.toNatClampNeg)) F.1 F.2.1 (rep_int hR hv) ((F.2.2.2.2.2.1.2 0 _ rfl).1 n (fun j => .int (σ v j))) (fun q => by cases q) (by show ¬ (i < 0 ∨ (arrV _ _ _).slots.size ≤ _); rw [arrV_size]; exact hin) (by show (arrV _ _ _).slots[_]? = _; rw [arrV_read _ _ hlt]) rfl rfl d (k r σ' ho H locs la hR hS hl))
/-- one cell's numbers change: the world with the new memory -/
theorem rep_set {v : Nat} {H H1 : Heap} {σ2 : Mem} (hR : Rep X σ H) (hx : Cx X s) (hv : xs X v ≠ 0) (h1 : va_at (xD X) classes (xa X v, ce (xa X) (xc X) (σ2 v) (xs X v) v) H1) (hq : ∀ q, q ≠ xa X v → H1[q]? = H[q]?) (hz : H1.size = H.size) (ho : ∀ w, w ≠ v → σ2 w = σ w) : Rep X σ2 H1 := by
  refine ⟨fun w hw => ?_, by rw [hz]; exact hR.2⟩
  by_cases e : w = v
  · subst e; exact h1
  · rw [ho w e]
    exact (hR.1 w hw).kept (hq _ (fun z => e (hx.2.1 w v hw hv z)))
theorem wr_self {v k : Nat} {x : Int32} : wr σ v k x v = upd (σ v) k x := by
  funext j
  simp [wr, upd]
theorem wr_other {v k w : Nat} {x : Int32} (h : w ≠ v) : wr σ v k x w = σ w := by
  funext j
  simp [wr, h]
theorem g_iast (F : FR p s m args c cc nL own X) {v n : Nat} {i x : Int32} (hv : xs X v = 1000 + n) (d : decode cc pc = .ok (.iastore, 1))
    (k : G X p l e R s m args below meth c nL ck sk Qf (pc + 1) ls rest (wr σ v i.toNatClampNeg x) o) : G X p l e R s m args below meth c nL ck sk Qf pc ls (.int x :: .int i :: .ref (xa X v) :: rest) σ (if ib i n then o else none) :=
  g_gd (fun hib r σ' ho H locs la hR hS hl => by
    have hin := vp_in_iff.mpr hib
    refine W.iast F.1 F.2.1 (rep_int hR hv) ((F.2.2.2.2.2.1.2 0 _ rfl).1 n (fun j => .int (σ v j))) (fun q => by cases q) (by show ¬ (i < 0 ∨ (arrV _ _ _).slots.size ≤ _); rw [arrV_size]; exact hin) rfl rfl d fun H1 e z oq => ?_
    refine k r σ' ho H1 _ la (rep_set hR F.2.2.2.2.2 (by omega) ?_ oq z (fun w hw => wr_other hw)) (hS.put z oq (F.2.2.2.2.2.2.2.1 v (by omega))) hl
    rw [wr_self, hv]
    have e1 : ce (xa X) (xc X) (upd (σ v) i.toNatClampNeg x) (1000 + n) v = .inl (xc X 0, n, .inl (upd (σ v) i.toNatClampNeg x)) := by
      unfold ce
      rw [if_pos (by omega)]
      simp
    rw [e1]
    show H1[xa X v]? = some (vp_cell _ _)
    rw [e, vp_cell_i, vp_cell_i, arrV_store]
    congr 2
    funext q
    by_cases hq : q = i.toNatClampNeg
    · subst hq
      simp [updV, upd]
    · simp [updV, upd, hq])
theorem rep_bool {v : Nat} {H : Heap} (hR : Rep X σ H) (hv : xs X v = 20) : H[xa X v]? = some (vp_cell (xc X 1) (8, .inl (σ v))) := by
  have h := hR.1 v (by omega)
  rw [hv] at h
  exact h
theorem g_zald (F : FR p s m args c cc nL own X) {v : Nat} {i : Int32} (hv : xs X v = 20) (d : decode cc pc = .ok (.baload, 1))
    (k : G X p l e R s m args below meth c nL ck sk Qf (pc + 1) ls (.int (σ v i.toNatClampNeg) :: rest) σ o) : G X p l e R s m args below meth c nL ck sk Qf pc ls (.int i :: .ref (xa X v) :: rest) σ (if ib i 8 then o else none) :=
  g_gd (fun hib r σ' ho H locs la hR hS hl => by
    have hin := vp_in_iff.mpr hib
    have hlt : i.toNatClampNeg < 8 := Nat.not_le.mp fun q => hin (Or.inr q)
    exact W.zald (v := .int (σ v i.toNatClampNeg)) F.1 F.2.1 (rep_bool hR hv) ((F.2.2.2.2.2.1.2 1 _ rfl).1 8 (fun j => .int (σ v j))) (fun q => by cases q) (by show ¬ (i < 0 ∨ (arrV _ _ _).slots.size ≤ _); rw [arrV_size]; exact hin) (by show (arrV _ _ _).slots[_]? = _; rw [arrV_read _ _ hlt]) rfl rfl d (k r σ' ho H locs la hR hS hl))
theorem g_zast (F : FR p s m args c cc nL own X) {v : Nat} {i x : Int32} (hv : xs X v = 20) (d : decode cc pc = .ok (.bastore, 1))
    (k : G X p l e R s m args below meth c nL ck sk Qf (pc + 1) ls rest (wr σ v i.toNatClampNeg (x &&& 1)) o) : G X p l e R s m args below meth c nL ck sk Qf pc ls (.int x :: .int i :: .ref (xa X v) :: rest) σ (if ib i 8 then o else none) :=
  g_gd (fun hib r σ' ho H locs la hR hS hl => by
    have hin := vp_in_iff.mpr hib
    refine W.zast F.1 F.2.1 (rep_bool hR hv) ((F.2.2.2.2.2.1.2 1 _ rfl).1 8 (fun j => .int (σ v j))) (fun q => by cases q) (by show ¬ (i < 0 ∨ (arrV _ _ _).slots.size ≤ _); rw [arrV_size]; exact hin) rfl rfl d fun H1 e z oq => ?_
    refine k r σ' ho H1 _ la (rep_set hR F.2.2.2.2.2 (by omega) ?_ oq z (fun w hw => wr_other hw)) (hS.put z oq (F.2.2.2.2.2.2.2.1 v (by omega))) hl
    rw [wr_self, hv]
    show H1[xa X v]? = some (vp_cell (xc X 1) (8, .inl (upd (σ v) i.toNatClampNeg (x &&& 1))))
    rw [e, vp_cell_i, vp_cell_i, arrV_store]
    congr 2
    funext q
    by_cases hq : q = i.toNatClampNeg
    · subst hq
      simp [updV, upd, narrow]
    · simp [updV, upd, hq])
theorem rep_ref {v κ t n dd u : Nat} {H : Heap} (hR : Rep X σ H) (hv : xs X v = κ) (hk : (κ = 21 ∧ t = 2 ∧ n = 8 ∧ dd = 8 ∧ u = 2) ∨ (κ = 22 ∧ t = 3 ∧ n = 8 ∧ dd = 23 ∧ u = 2) ∨ (κ = 23 ∧ t = 4 ∧ n = 5 ∧ dd = 1 ∧ u = 42)) : H[xa X v]? = some (vp_cell (xc X t) (n, .inr (.inr (.inr (.inr (fun j => some (xa X (v + (dd + u * j))))))))) := by
  have h := hR.1 v (by omega)
  rw [hv] at h
  rcases hk with ⟨rfl, rfl, rfl, rfl, rfl⟩ | ⟨rfl, rfl, rfl, rfl, rfl⟩ | ⟨rfl, rfl, rfl, rfl, rfl⟩ <;> exact h
theorem g_aald (F : FR p s m args c cc nL own X) {v : Nat} (κ t n dd u : Nat) (C : String) {i : Int32} (hv : xs X v = κ) (hk : (κ = 21 ∧ t = 2 ∧ n = 8 ∧ dd = 8 ∧ u = 2) ∨ (κ = 22 ∧ t = 3 ∧ n = 8 ∧ dd = 23 ∧ u = 2) ∨ (κ = 23 ∧ t = 4 ∧ n = 5 ∧ dd = 1 ∧ u = 42)) (ht : (tys X)[t]? = some (xc X t, .object C)) (d : decode cc pc = .ok (.aaload, 1))
    (k : i.toNatClampNeg < n → G X p l e R s m args below meth c nL ck sk Qf (pc + 1) ls (.ref (xa X (v + (dd + u * i.toNatClampNeg))) :: rest) σ o) : G X p l e R s m args below meth c nL ck sk Qf pc ls (.int i :: .ref (xa X v) :: rest) σ (if ib i n then o else none) :=
  g_gd (fun hib r σ' ho H locs la hR hS hl => by
    have hin := vp_in_iff.mpr hib
    have hlt : i.toNatClampNeg < n := Nat.not_le.mp fun q => hin (Or.inr q)
    exact W.aald (v := .ref (xa X (v + (dd + u * i.toNatClampNeg)))) (ty := .object C) F.1 F.2.1 (rep_ref hR hv hk) ((F.2.2.2.2.2.1.2 t _ ht).1 n (fun j => va_rf (some (xa X (v + (dd + u * j)))))) rfl (fun q => by cases q) (by show ¬ (i < 0 ∨ (arrV _ _ _).slots.size ≤ _); rw [arrV_size]; exact hin) (by show (arrV _ _ _).slots[_]? = _; rw [arrV_read _ _ hlt]; rfl) rfl rfl d (k hlt r σ' ho H locs la hR hS hl))
theorem ce_obj {a : Nat → Nat} {cA : Nat → ClassId} {f : Nat → Int32} {κ v : Nat} (h : κ < 20 ∨ (100 ≤ κ ∧ κ < 200)) : ce a cA f κ v = .inr (cix κ, fl a f v (spc κ) 0) := by
  unfold ce
  rw [if_neg (by omega), if_neg (by omega), if_neg (by omega), if_neg (by omega), if_neg (by omega), if_neg (by omega), if_neg (by omega), if_neg (by omega)]
theorem rep_obj {v ci : Nat} {H : Heap} (hR : Rep X σ H) (hv : xs X v = ci + 1) (hc : ci < 9) : va_at (xD X) classes (xa X v, .inr (ci, fl (xa X) (σ v) v (spc (ci + 1)) 0)) H := by
  have h := hR.1 v (by omega)
  rw [hv, ce_obj (by omega), show cix (ci + 1) = ci from by unfold cix; rw [if_neg (by omega)]; omega] at h
  exact h
theorem g_getV (F : FR p s m args c cc nL own X) {v index ci j : Nat} {w : Value} (hF : FS own index ci j) (hv : xs X v = ci + 1) (hw : (fl (xa X) (σ v) v (spc (ci + 1)) 0)[j]? = some w) (d : decode cc pc = .ok (.getfield index, 3))
    (k : G X p l e R s m args below meth c nL ck sk Qf (pc + 3) ls (w :: rest) σ o) : G X p l e R s m args below meth c nL ck sk Qf pc ls (.ref (xa X v) :: rest) σ o := fun r σ' ho H locs la hR hS hl => by
  obtain ⟨C, T, N, hc, hk, hd, hlk⟩ := hF
  have hci : ci < 9 := (List.getElem?_eq_some_iff.mp hc).1
  have hP : va_P (xD X) classes [(xa X v, .inr (ci, fl (xa X) (σ v) v (spc (ci + 1)) 0))] H := by
    intro q x hx
    cases q with
    | zero => simp at hx; subst hx; exact rep_obj hR hv hci
    | succ q => simp at hx
  exact va_get F.1 F.2.1 F.2.2.2.2.1 (cls_in ci C T N hc) F.2.2.2.1 F.2.2.2.2.2.1 hP 0 rfl hc j hk (F.2.2.2.2.1 _ hlk) (fun x h => by rw [hd] at h; exact h) hw d (k r σ' ho H locs la hR hS hl)
theorem g_getI (F : FR p s m args c cc nL own X) {v index ci j : Nat} (hF : FS own index ci j) (hv : xs X v = ci + 1) (hs : (spc (ci + 1))[j]? = some none) (d : decode cc pc = .ok (.getfield index, 3))
    (k : G X p l e R s m args below meth c nL ck sk Qf (pc + 3) ls (.int (σ v j) :: rest) σ o) : G X p l e R s m args below meth c nL ck sk Qf pc ls (.ref (xa X v) :: rest) σ o :=
  g_getV F hF hv (by have h := fl_int (a := xa X) (f := σ v) (v := v) _ 0 j hs; rw [Nat.zero_add] at h; exact h) d k
theorem g_getR (F : FR p s m args c cc nL own X) {v index ci j dd : Nat} (hF : FS own index ci j) (hv : xs X v = ci + 1) (hs : (spc (ci + 1))[j]? = some (some dd)) (d : decode cc pc = .ok (.getfield index, 3))
    (k : G X p l e R s m args below meth c nL ck sk Qf (pc + 3) ls (.ref (xa X (v + dd)) :: rest) σ o) (hdd : dd ≠ 0 := by decide) : G X p l e R s m args below meth c nL ck sk Qf pc ls (.ref (xa X v) :: rest) σ o :=
  g_getV F hF hv (fl_ref hdd _ 0 j hs) d k
theorem g_put (F : FR p s m args c cc nL own X) {v index ci j : Nat} {x : Int32} {ty : FieldType} (hF : FW own index ci j ty) (hv : xs X v = ci + 1) (hs : (spc (ci + 1))[j]? = some none) (hn : narrow ty (.int x) = .int x) (hfit : fits ty (.int x) = true) (d : decode cc pc = .ok (.putfield index, 3))
    (k : G X p l e R s m args below meth c nL ck sk Qf (pc + 3) ls rest (wr σ v j x) o) : G X p l e R s m args below meth c nL ck sk Qf pc ls (.int x :: .ref (xa X v) :: rest) σ o := fun r σ' ho H locs la hR hS hl => by
  obtain ⟨C, T, N, hc, hk, hd, hlk, hfin, hty⟩ := hF
  have hci : ci < 9 := (List.getElem?_eq_some_iff.mp hc).1
  obtain ⟨ty0, htys, hnm⟩ := cls_ty ci C T N hc
  have hK := F.2.2.2.2.2.1
  have hts := F.2.2.2.2.1
  have hin := cls_in ci C T N hc
  have hap := va_apart (own := own) hts hin ty0 htys hnm hK hc
  obtain ⟨rr, h1, cell, q1, q2, q3, q4⟩ := rep_obj hR hv hci
  have hr : rr = (C, T, N) := Option.some.inj (h1.symm.trans hc)
  subst hr
  obtain ⟨hSl, hfc, kC, hkC, hkind⟩ := hK.1 ci _ hc
  obtain ⟨cf, kf, fi, f, hi, hsl⟩ := hSl j hk
  have hlay := hts _ (hin _ (u_in_lay hk))
  unfold u_lay at hlay
  rw [if_neg (by rw [hfin]; decide)] at hlay
  have hst := (u_facts hfc hkC (u_lays hts hin hk) hi).1
  have h6 := u_store hfc hkC hkind hlay hi hty hn hfit
  refine W.putK F.1 F.2.1 (f := f) ⟨F.2.2.2.1, hts _ hlk, ⟨_, _, _, by rw [hd] at hi; exact hi⟩, hst⟩ (by rw [q2]; exact h6) q1 q3 (by rw [hsl]; exact k2_hasslot (q4 j hk)) rfl rfl d fun H' e1 e2 e3 => ?_
  rw [hsl] at e1 ⊢
  refine k r σ' ho H' _ la (rep_set hR F.2.2.2.2.2 (by omega) ?_ e3 e2 (fun w hw => wr_other hw)) (hS.put e2 e3 (F.2.2.2.2.2.2.2.1 v (by omega))) hl
  have e : ce (xa X) (xc X) (wr σ v j x v) (xs X v) v = .inr (ci, (fl (xa X) (σ v) v (spc (ci + 1)) 0).set j (.int x)) := by
    rw [wr_self, hv, ce_obj (by omega), show cix (ci + 1) = ci from by unfold cix; rw [if_neg (by omega)]; omega, fl_set _ 0 j hs, Nat.zero_add]
  rw [e]
  have hl2 : j < (fl (xa X) (σ v) v (spc (ci + 1)) 0).length := by
    rw [fl_len]
    exact (List.getElem?_eq_some_iff.mp hs).1
  exact ⟨_, hc, t_OB.to (V := updV (vp_V _) j (.int x)) ⟨_, e1, q2, q3, t_set q4 hap hk (.int x)⟩ (fun q _ => vp_updV_set hl2 (.int x) q)⟩
theorem g_putI (F : FR p s m args c cc nL own X) {v index ci j : Nat} {x : Int32} (hF : FW own index ci j .int) (hv : xs X v = ci + 1) (hs : (spc (ci + 1))[j]? = some none) (d : decode cc pc = .ok (.putfield index, 3))
    (k : G X p l e R s m args below meth c nL ck sk Qf (pc + 3) ls rest (wr σ v j x) o) : G X p l e R s m args below meth c nL ck sk Qf pc ls (.int x :: .ref (xa X v) :: rest) σ o :=
  g_put F hF hv hs rfl rfl d k
theorem g_putZ (F : FR p s m args c cc nL own X) {v index ci j : Nat} {x : Int32} (hF : FW own index ci j .boolean) (hv : xs X v = ci + 1) (hs : (spc (ci + 1))[j]? = some none) (d : decode cc pc = .ok (.putfield index, 3))
    (k : G X p l e R s m args below meth c nL ck sk Qf (pc + 3) ls rest (wr σ v j x) o) : G X p l e R s m args below meth c nL ck sk Qf pc ls (.int x :: .ref (xa X v) :: rest) σ (if x &&& 1 = x then o else none) :=
  g_gd (fun q => g_put F hF hv hs (by show Value.int (x &&& 1) = _; rw [q]) (by have h := fits_narrow_boolean x; rw [show narrow .boolean (.int x) = .int (x &&& 1) from rfl, q] at h; exact h) d k)
/-! calls and ends -/
def CSV (own : String) (index : Nat) (y : MethodName) (bytes : ByteArray) (maxL : Nat) (ret : Option FieldType) (n : Nat) : Prop :=
  Cond.methodLink own index y ∈ gw ∧ Cond.instanceMethod y ∈ gw ∧ Cond.selects y.cls y y ∈ gw ∧ Cond.initialized y.cls ∈ gw ∧ Cond.code y bytes maxL ret ∈ gw ∧ (y.cls ≠ "java/lang/invoke/MethodHandle" ∧ y.cls ≠ "java/lang/invoke/VarHandle") ∧ (parseMethodDescriptor y.desc).map (fun d => d.parameters.length) = some n
def CSS (own : String) (index : Nat) (y : MethodName) (bytes : ByteArray) (maxL : Nat) (ret : Option FieldType) (n : Nat) : Prop :=
  Cond.methodLink own index y ∈ gw ∧ Cond.static y ∈ gw ∧ Cond.initialized y.cls ∈ gw ∧ Cond.code y bytes maxL ret ∈ gw ∧ (y.cls ≠ "java/lang/invoke/MethodHandle" ∧ y.cls ≠ "java/lang/invoke/VarHandle") ∧ (parseMethodDescriptor y.desc).map (fun d => d.parameters.length) = some n
def CSN (own : String) (index : Nat) (y : MethodName) (host : String) (bytes : ByteArray) (maxL : Nat) (ret : Option FieldType) (n : Nat) : Prop :=
  (own, index, y, host) ∈ nestL ∧ Cond.static y ∈ gw ∧ Cond.initialized y.cls ∈ gw ∧ Cond.code y bytes maxL ret ∈ gw ∧ (y.cls ≠ "java/lang/invoke/MethodHandle" ∧ y.cls ≠ "java/lang/invoke/VarHandle") ∧ (parseMethodDescriptor y.desc).map (fun d => d.parameters.length) = some n
theorem g_callV {ρ' : Type} {vl : ρ' → Option Value} {y : MethodName} {bytes : ByteArray} {maxL dp n index v ci : Nat} {ret : Option FieldType} {As st : List Value} {oc : Option (ρ' × Mem)} {kf : ρ' → Mem → Option (ρ × Mem)}
    (F : FR p s m args c cc nL own X) (hC : CT X l y bytes maxL ret dp vl (.ref (xa X v) :: As) σ oc) (hW : CSV own index y bytes maxL ret n) (hv : xs X v = ci + 1) (hcls : (classes[ci]?).map (fun q => q.1) = some y.cls) (hst : st = As.reverse ++ .ref (xa X v) :: rest) (hn : As.length = n) (hcat : (rest.map fun v => v.category).sum ≤ 8) (hroom : dp + 1 ≤ R.frames ∧ 8 + (maxL + 11) + 35 * dp ≤ R.locals) (hck : ck ≤ R.cells ∧ sk ≤ R.slots) (d : decode cc pc = .ok (.invokevirtual index, 3))
    (k : ∀ r2 σ2, oc = some (r2, σ2) → G X p l e R s m args below meth c nL ck sk Qf (pc + 3) ls ((vl r2).toList ++ rest) σ2 (kf r2 σ2)) : G X p l e R s m args below meth c nL ck sk Qf pc ls st σ (bd oc kf) := by
  subst hst
  cases ho2 : oc with
  | none => exact g_no
  | some w =>
    obtain ⟨r2, σ2⟩ := w
    intro r σ' ho H locs la hR hS hl
    obtain ⟨hlink, hinst, hsel, hini, hcode, hy, hpar⟩ := hW
    obtain ⟨hx, hb, hml, hown, hts, hcx⟩ := F
    have hlen : ∀ sig, parseMethodDescriptor y.desc = some sig → n = sig.parameters.length := fun sig h => by
      rw [h] at hpar
      exact (Option.some.inj hpar).symm
    have hws : ∀ w ∈ (Cond.code y bytes maxL ret :: gw), ∀ (a' : Array Value) (U : State), s.WarmedH U.vm → w.before a' U = true := fun w hw a' U hW => by
      have hw' : w ∈ gw := (List.mem_cons.mp hw).elim (fun q => by rw [q]; exact hcode) id
      exact word_at hW (good_of_word (gw_ok w hw')) (hts w hw')
    obtain ⟨q, hq, hqc⟩ : ∃ q, classes[ci]? = some q ∧ q.1 = y.cls := by
      cases hc : classes[ci]? with
      | none => rw [hc] at hcls; cases hcls
      | some q => rw [hc] at hcls; exact ⟨q, rfl, Option.some.inj hcls⟩
    have hci : ci < 9 := (List.getElem?_eq_some_iff.mp hq).1
    have hrec : ∃ cellB : Cell, H[xa X v]? = some cellB ∧ cellB.vm.isStatics = false ∧ s.vm.findClass y.cls = some cellB.cls := by
      obtain ⟨q', h1, cell, g1, g2, g3, -⟩ := rep_obj hR hv hci
      exact ⟨cell, g1, by rw [g3]; rfl, by rw [g2, ← hqc]; exact (hcx.1.1 ci q hq).2.1⟩
    have run := va_runV (cells := ck) (slots := sk) (locs := locs) (H := H) (g := F0 m pc la (As.reverse ++ .ref (xa X v) :: rest)) (rest := rest) (As := As) (b := xa X v) (C := y.cls) (n := n) (p := p) (e := e) (R := R) (below := below) (meth := meth) ⟨hx, hb, hml, hown, hts⟩ (hC r2 σ2 ho2)
      ⟨⟨rfl, rfl, hroom.1, hroom.2, hws, List.mem_cons_self, hts _ hcode, hts _ hini, hy, hlen, hts _ hlink⟩, hts _ hinst, hts _ hsel⟩
      ⟨fun a U g mk q => ⟨q.1, q.2.1, Cx.same (u := U) (U := U.calling g mk a) rfl rfl q.2.2⟩, hrec, fun U hU hW => ⟨rfl, by rw [hU]; exact hR, Cx.warm hW (by rw [hU]; exact hS.2.1) hcx⟩⟩
      rfl hn hl.1 rfl (lv_room hcat) d hck
    intro T hT XX
    obtain ⟨v', st₀, t, T', L, h0, X', hL, e1, e2, hq2, hgo⟩ := run T hT XX
    obtain ⟨hv', hRep, hF⟩ := hq2
    cases hv'
    rw [← e1] at hRep
    obtain ⟨hz, hk⟩ := hF
    rw [h0, ← e1] at hz hk
    obtain ⟨t2, a1, b1⟩ := k r2 σ2 ho2 r σ' ho T'.heap (locs ++ L) la hRep ⟨Nat.le_trans hS.1 hz, fun q h1 h2 => by rw [hk q (Nat.lt_of_lt_of_le h1 hS.1) h2]; exact hS.2.1 q h1 h2, fun q hq => by
      rcases List.mem_append.mp hq with h | h
      · exact hS.2.2 q h
      · exact hL q h⟩ hl T' rfl X'
    exact ⟨t2, hgo t2 a1, b1⟩
theorem g_callS {ρ' : Type} {vl : ρ' → Option Value} {y : MethodName} {bytes : ByteArray} {maxL dp n index : Nat} {ret : Option FieldType} {As st : List Value} {oc : Option (ρ' × Mem)} {kf : ρ' → Mem → Option (ρ × Mem)}
    (F : FR p s m args c cc nL own X) (hC : CT X l y bytes maxL ret dp vl As σ oc) (hW : CSS own index y bytes maxL ret n) (hst : st = As.reverse ++ rest) (hn : As.length = n) (hcat : (rest.map fun v => v.category).sum ≤ 8) (hroom : dp + 1 ≤ R.frames ∧ 8 + (maxL + 11) + 35 * dp ≤ R.locals) (hck : ck ≤ R.cells ∧ sk ≤ R.slots) (d : decode cc pc = .ok (.invokestatic index, 3))
    (k : ∀ r2 σ2, oc = some (r2, σ2) → G X p l e R s m args below meth c nL ck sk Qf (pc + 3) ls ((vl r2).toList ++ rest) σ2 (kf r2 σ2)) : G X p l e R s m args below meth c nL ck sk Qf pc ls st σ (bd oc kf) := by
  subst hst
  cases ho2 : oc with
  | none => exact g_no
  | some w =>
    obtain ⟨r2, σ2⟩ := w
    intro r σ' ho H locs la hR hS hl
    obtain ⟨hlink, hstat, hini, hcode, hy, hpar⟩ := hW
    obtain ⟨hx, hb, hml, hown, hts, hcx⟩ := F
    have hlen : ∀ sig, parseMethodDescriptor y.desc = some sig → n = sig.parameters.length := fun sig h => by
      rw [h] at hpar
      exact (Option.some.inj hpar).symm
    have hws : ∀ w ∈ (Cond.code y bytes maxL ret :: gw), ∀ (a' : Array Value) (U : State), s.WarmedH U.vm → w.before a' U = true := fun w hw a' U hW => by
      have hw' : w ∈ gw := (List.mem_cons.mp hw).elim (fun q => by rw [q]; exact hcode) id
      exact word_at hW (good_of_word (gw_ok w hw')) (hts w hw')
    have run := va_runS (cells := ck) (slots := sk) (locs := locs) (H := H) (g := F0 m pc la (As.reverse ++ rest)) (rest := rest) (As := As) (n := n) (p := p) (e := e) (R := R) (below := below) (meth := meth) ⟨hx, hb, hml, hown, hts⟩ (hC r2 σ2 ho2)
      ⟨⟨rfl, rfl, hroom.1, hroom.2, hws, List.mem_cons_self, hts _ hcode, hts _ hini, hy, hlen, hts _ hlink⟩, hts _ hstat⟩
      ⟨fun a U g mk q => ⟨q.1, q.2.1, Cx.same (u := U) (U := U.calling g mk a) rfl rfl q.2.2⟩, fun U hU hW => ⟨rfl, by rw [hU]; exact hR, Cx.warm hW (by rw [hU]; exact hS.2.1) hcx⟩⟩
      rfl hn hl.1 rfl (lv_room hcat) d hck
    intro T hT XX
    obtain ⟨v', st₀, t, T', L, h0, X', hL, e1, e2, hq2, hgo⟩ := run T hT XX
    obtain ⟨hv', hRep, hF⟩ := hq2
    cases hv'
    rw [← e1] at hRep
    obtain ⟨hz, hk⟩ := hF
    rw [h0, ← e1] at hz hk
    obtain ⟨t2, a1, b1⟩ := k r2 σ2 ho2 r σ' ho T'.heap (locs ++ L) la hRep ⟨Nat.le_trans hS.1 hz, fun q h1 h2 => by rw [hk q (Nat.lt_of_lt_of_le h1 hS.1) h2]; exact hS.2.1 q h1 h2, fun q hq => by
      rcases List.mem_append.mp hq with h | h
      · exact hS.2.2 q h
      · exact hL q h⟩ hl T' rfl X'
    exact ⟨t2, hgo t2 a1, b1⟩
theorem g_callSN {ρ' : Type} {vl : ρ' → Option Value} {y : MethodName} {bytes : ByteArray} {maxL dp n index : Nat} {ret : Option FieldType} {As st : List Value} {oc : Option (ρ' × Mem)} {kf : ρ' → Mem → Option (ρ × Mem)}
    (F : FR p s m args c cc nL own X) (hC : CT X l y bytes maxL ret dp vl As σ oc) {host : String} (hW : CSN own index y host bytes maxL ret n) (hst : st = As.reverse ++ rest) (hn : As.length = n) (hcat : (rest.map fun v => v.category).sum ≤ 8) (hroom : dp + 1 ≤ R.frames ∧ 8 + (maxL + 11) + 35 * dp ≤ R.locals) (hck : ck ≤ R.cells ∧ sk ≤ R.slots) (d : decode cc pc = .ok (.invokestatic index, 3))
    (k : ∀ r2 σ2, oc = some (r2, σ2) → G X p l e R s m args below meth c nL ck sk Qf (pc + 3) ls ((vl r2).toList ++ rest) σ2 (kf r2 σ2)) : G X p l e R s m args below meth c nL ck sk Qf pc ls st σ (bd oc kf) := by
  subst hst
  cases ho2 : oc with
  | none => exact g_no
  | some w =>
    obtain ⟨r2, σ2⟩ := w
    intro r σ' ho H locs la hR hS hl
    obtain ⟨hlink, hstat, hini, hcode, hy, hpar⟩ := hW
    have hcx0 := F.2.2.2.2.2.2.2.2.1
    obtain ⟨hx, hb, hml, hown, hts, hcx⟩ := F
    have hlen : ∀ sig, parseMethodDescriptor y.desc = some sig → n = sig.parameters.length := fun sig h => by
      rw [h] at hpar
      exact (Option.some.inj hpar).symm
    have hws : ∀ w ∈ (Cond.code y bytes maxL ret :: gw), ∀ (a' : Array Value) (U : State), s.WarmedH U.vm → w.before a' U = true := fun w hw a' U hW => by
      have hw' : w ∈ gw := (List.mem_cons.mp hw).elim (fun q => by rw [q]; exact hcode) id
      exact word_at hW (good_of_word (gw_ok w hw')) (hts w hw')
    have run := va_runSN (host := host) (cells := ck) (slots := sk) (locs := locs) (H := H) (g := F0 m pc la (As.reverse ++ rest)) (rest := rest) (As := As) (n := n) (p := p) (e := e) (R := R) (below := below) (meth := meth) ⟨hx, hb, hml, hown, hts⟩ (hC r2 σ2 ho2)
      ⟨⟨⟨rfl, rfl, hroom.1, hroom.2, hws, List.mem_cons_self⟩, hts _ hcode, hts _ hini, hy, hlen, va_Nw.use rfl (hcx0 _ hlink)⟩, hts _ hstat, trivial⟩
      ⟨fun a U g mk q => ⟨q.1, q.2.1, Cx.same (u := U) (U := U.calling g mk a) rfl rfl q.2.2⟩, fun U hU hW => ⟨rfl, by rw [hU]; exact hR, Cx.warm hW (by rw [hU]; exact hS.2.1) hcx⟩⟩
      rfl hn hl.1 rfl (lv_room hcat) d hck
    intro T hT XX
    obtain ⟨v', st₀, t, T', L, h0, X', hL, e1, e2, hq2, hgo⟩ := run T hT XX
    obtain ⟨hv', hRep, hF⟩ := hq2
    cases hv'
    rw [← e1] at hRep
    obtain ⟨hz, hk⟩ := hF
    rw [h0, ← e1] at hz hk
    obtain ⟨t2, a1, b1⟩ := k r2 σ2 ho2 r σ' ho T'.heap (locs ++ L) la hRep ⟨Nat.le_trans hS.1 hz, fun q h1 h2 => by rw [hk q (Nat.lt_of_lt_of_le h1 hS.1) h2]; exact hS.2.1 q h1 h2, fun q hq => by
      rcases List.mem_append.mp hq with h | h
      · exact hS.2.2 q h
      · exact hL q h⟩ hl T' rfl X'
    exact ⟨t2, hgo t2 a1, b1⟩
theorem g_oe {w : Option Nat} (h1 : w = none → G X p l e R s m args below meth c nL ck sk Qf pc ls (.null :: rest) σ o1) {f : Nat → Option (ρ × Mem)} (h2 : ∀ v, w = some v → G X p l e R s m args below meth c nL ck sk Qf pc ls (.ref (xa X v) :: rest) σ (f v)) : G X p l e R s m args below meth c nL ck sk Qf pc ls ((vQ X w).toList ++ rest) σ (oe w o1 f) := by
  cases w with
  | none => exact h1 rfl
  | some v => exact h2 v rfl
end ROWS
section ENDS
variable {X : CX} {p : Program} {l : Launch} {e : Env} {R : Room} {s : State} {m : MethodId} {args : Array Value} {below : List Frame} {meth : Method} {c : Code} {cc : ByteArray} {own : String} {nL : Nat} {pc : Nat} {ls : List (Nat × Value)} {σ : Mem}
abbrev QI (X : CX) (below : List Frame) (args : Array Value) (s : State) {ρ : Type} (vl : ρ → Option Value) : ρ → Mem → State → Prop := fun r σ' => MQ below (QC X (vl r) σ') args s 0 0 (xA X)
theorem g_iret (F : FR p s m args c cc nL own X) (hlk : meth.locks = false) (hr : meth.sig.returnType = some .int) {v : Int32} (d : decode cc pc = .ok (.ireturn, 1)) : G X p l e R s m args below meth c nL 0 0 (QI X below args s vI) pc ls [.int v] σ (some (v, σ)) :=
  fun r σ' ho H locs la hR hS hl => by
    cases ho
    exact W.zret F.1 F.2.1 hr rfl (fun t ht _ => ⟨rfl, by rw [ht]; exact hR, hS.F ht⟩) hS.2.2 d hlk
theorem g_zretC (F : FR p s m args c cc nL own X) (hlk : meth.locks = false) (hr : meth.sig.returnType = some .boolean) {v : Int32} (hn : v &&& 1 = v) (d : decode cc pc = .ok (.ireturn, 1)) : G X p l e R s m args below meth c nL 0 0 (QI X below args s vI) pc ls [.int v] σ (some (v, σ)) :=
  fun r σ' ho H locs la hR hS hl => by
    cases ho
    exact W.zret F.1 F.2.1 hr (by show Value.int (v &&& 1) = _; rw [hn]) (fun t ht _ => ⟨rfl, by rw [ht]; exact hR, hS.F ht⟩) hS.2.2 d hlk
theorem g_zret (F : FR p s m args c cc nL own X) (hlk : meth.locks = false) (hr : meth.sig.returnType = some .boolean) {v : Int32} (d : decode cc pc = .ok (.ireturn, 1)) : G X p l e R s m args below meth c nL 0 0 (QI X below args s vI) pc ls [.int v] σ (if v &&& 1 = v then some (v, σ) else none) :=
  g_gd (fun q => g_zretC F hlk hr q d)
theorem g_vret (F : FR p s m args c cc nL own X) (hlk : meth.locks = false) (hr : meth.sig.returnType = none) (d : decode cc pc = .ok (.return_, 1)) : G X p l e R s m args below meth c nL 0 0 (QI X below args s vU) pc ls [] σ (some ((), σ)) :=
  fun r σ' ho H locs la hR hS hl => by
    cases ho
    exact W.vret F.1 F.2.1 hr (fun t ht _ => ⟨rfl, by rw [ht]; exact hR, hS.F ht⟩) hS.2.2 d hlk
theorem g_aret (F : FR p s m args c cc nL own X) (hlk : meth.locks = false) {C : String} (hr : meth.sig.returnType = some (.object C)) {v : Nat} (d : decode cc pc = .ok (.areturn, 1)) : G X p l e R s m args below meth c nL 0 0 (QI X below args s (vQ X)) pc ls [.ref (xa X v)] σ (some (some v, σ)) :=
  fun r σ' ho H locs la hR hS hl => by
    cases ho
    exact W.aret F.1 F.2.1 hr (Or.inl ⟨_, rfl⟩) (Or.inr ⟨_, rfl⟩) (fun t ht _ => ⟨rfl, by rw [ht]; exact hR, hS.F ht⟩) hS.2.2 d hlk
theorem g_aretN (F : FR p s m args c cc nL own X) (hlk : meth.locks = false) {C : String} (hr : meth.sig.returnType = some (.object C)) (d : decode cc pc = .ok (.areturn, 1)) : G X p l e R s m args below meth c nL 0 0 (QI X below args s (vQ X)) pc ls [.null] σ (some (none, σ)) :=
  fun r σ' ho H locs la hR hS hl => by
    cases ho
    exact W.aret F.1 F.2.1 hr (Or.inl ⟨_, rfl⟩) (Or.inl rfl) (fun t ht _ => ⟨rfl, by rw [ht]; exact hR, hS.F ht⟩) hS.2.2 d hlk
theorem CT_of {ρ : Type} {y : MethodName} {bytes : ByteArray} {maxL dp : Nat} {ret : Option FieldType} {vl : ρ → Option Value} {av : List Value} {o : Option (ρ × Mem)} (hy : plainFor y = true) (hlen : (lg_sl av).length ≤ maxL)
    (body : ∀ p e s m args below meth c, FR p s m args c bytes maxL y.cls X → meth.locks = false → meth.sig.returnType = ret → G X p l e (rmD dp) s m args below meth c maxL 0 0 (QI X below args s vl) 0 (lv_args 0 av) [] σ o) : CT X l y bytes maxL ret dp vl av σ o := by
  intro r σ' ho
  refine va_MetF (cc := bytes) (maxL := maxL) (ret := ret) hy rfl ?_
  intro p e s m args below meth c s₁ B hml hv
  obtain ⟨rfl, hR, hX⟩ := hv
  have hts := atoms_spec (ws := (Cond.code y bytes maxL ret :: gw)) B.pre
  rw [lg_entry_eq]
  exact body p e s m _ below meth c ⟨B.exec, B.bytes, hml, findClass_of_methodNamed B.named, fun w hw => hts w (List.mem_cons_of_mem _ hw), hX⟩ B.notSynchronized B.returns r σ' ho s.heap [] _ hR va_S.rf (lv_entry av hlen)
end ENDS
