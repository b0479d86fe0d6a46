def insL (sh : Nat → Nat) (v0 : Nat) (L : List Nat) : Nat → Nat := fun w => if v0 ≤ w ∧ w < v0 + L.length then L.getD (w - v0) 0 else sh w
theorem insL_at {sh : Nat → Nat} {v0 j : Nat} {L : List Nat} (h : j < L.length) : insL sh v0 L (v0 + j) = L.getD j 0 := by
  unfold insL
  rw [if_pos ⟨by omega, by omega⟩, Nat.add_sub_cancel_left]
theorem insL_one {sh : Nat → Nat} {v0 κ : Nat} (h : sh v0 = κ) (w : Nat) : sh w = insL sh v0 [κ] w := by
  unfold insL
  by_cases e : w = v0
  · subst e
    rw [if_pos ⟨by omega, by show w < w + 1; omega⟩, Nat.sub_self]
    exact h
  · rw [if_neg (by show ¬ (v0 ≤ w ∧ w < v0 + 1); omega)]
theorem insL_push {sh : Nat → Nat} {v0 κ n : Nat} {L : List Nat} (hn : L.length = n) (w : Nat) : upn (insL sh v0 L) (v0 + n) κ w = insL sh v0 (L ++ [κ]) w := by
  subst hn
  unfold upn insL
  rw [List.length_append]
  by_cases e : w = v0 + L.length
  · subst e
    rw [if_pos rfl, if_pos ⟨by omega, by show _ < _ + (_ + 1); omega⟩, Nat.add_sub_cancel_left]
    simp
  · rw [if_neg e]
    by_cases h : v0 ≤ w ∧ w < v0 + L.length
    · rw [if_pos h, if_pos ⟨by omega, by show _ < _ + (_ + 1); omega⟩]
      simp only [List.getD_eq_getElem?_getD]
      rw [List.getElem?_append_left (by omega)]
    · rw [if_neg h, if_neg (by show ¬ (v0 ≤ w ∧ w < v0 + (_ + 1)); omega)]
theorem insL_set {sh : Nat → Nat} {v0 κ j : Nat} {L : List Nat} (hj : j < L.length) (w : Nat) : upn (insL sh v0 L) (v0 + j) κ w = insL sh v0 (L.set j κ) w := by
  unfold upn insL
  rw [List.length_set]
  by_cases e : w = v0 + j
  · subst e
    rw [if_pos rfl, if_pos ⟨by omega, by omega⟩, Nat.add_sub_cancel_left]
    simp [hj]
  · rw [if_neg e]
    by_cases h : v0 ≤ w ∧ w < v0 + L.length
    · rw [if_pos h, if_pos h]
      simp only [List.getD_eq_getElem?_getD]
      rw [List.getElem?_set_ne (by omega)]
    · rw [if_neg h, if_neg h]
theorem insL_app {sh : Nat → Nat} {v0 κ n : Nat} {L M : List Nat} (hn : L.length = n) (hM : 1 ≤ M.length) (w : Nat) : insL (insL sh v0 (L ++ [κ])) (v0 + n) M w = insL sh v0 (L ++ M) w := by
  subst hn
  unfold insL
  rw [List.length_append, List.length_append]
  by_cases h : v0 + L.length ≤ w ∧ w < v0 + L.length + M.length
  · rw [if_pos h, if_pos ⟨by omega, by omega⟩]
    simp only [List.getD_eq_getElem?_getD]
    rw [List.getElem?_append_right (by omega), show w - v0 - L.length = w - (v0 + L.length) by omega]
  · rw [if_neg h]
    by_cases h2 : v0 ≤ w ∧ w < v0 + L.length
    · rw [if_pos ⟨h2.1, by show _ < _ + (_ + 1); omega⟩, if_pos ⟨by omega, by omega⟩]
      simp only [List.getD_eq_getElem?_getD]
      rw [List.getElem?_append_left (by omega), List.getElem?_append_left (by omega)]
    · rw [if_neg (by show ¬ (v0 ≤ w ∧ w < v0 + (_ + 1)); omega), if_neg (by omega)]
section CTOR
variable {ρ : Type} {D : va_G} {b : Nat} {cA : Nat → ClassId} {kA sh sh' : Nat → Nat} {kz kz' : Nat} {p : Program} {l : Launch} {e : Env} {R : Room} {s : State} {m : MethodId} {args : Array Value} {below : List Frame} {meth : Method} {c : Code} {cc : ByteArray} {own : String} {nL ck sk ck' sk' : Nat} {Qf : ρ → Mem → State → Prop} {pc : Nat} {ls : List (Nat × Value)} {rest : List Value} {σ σ2 : Mem} {o : Option (ρ × Mem)}
theorem g_re {st : List Value} (h : ∀ w, sh w = sh' w) (hk : kz = kz') (hc : ck = ck') (hs : sk = sk') (k : G (KX D b cA kA sh' kz') p l e R s m args below meth c nL ck' sk' Qf pc ls st σ o) : G (KX D b cA kA sh kz) p l e R s m args below meth c nL ck sk Qf pc ls st σ o := by
  have e1 : sh = sh' := funext h
  subst e1; subst hk; subst hc; subst hs
  exact k
theorem CN.re {y : MethodName} {bytes : ByteArray} {maxL dp mc ms : Nat} {av : List Value} {X : CX} (h : ∀ w, sh w = sh' w) (hk : kz = kz') (k : CN X (KX D b cA kA sh kz) l y bytes maxL dp mc ms av σ σ2) : CN X (KX D b cA kA sh' kz') l y bytes maxL dp mc ms av σ σ2 := by
  have e1 : sh = sh' := funext h
  subst e1; subst hk
  exact k
theorem CN_of {X X' : CX} {y : MethodName} {bytes : ByteArray} {maxL dp mc ms : Nat} {av : List Value} {o : Option (Unit × Mem)} (hy : plainFor y = true) (hlen : (lg_sl av).length ≤ maxL) (ho : o = some ((), σ2)) (hA : xA X' = xA X)
    (body : ∀ p e s m args below meth c, FR p s m args c bytes maxL y.cls X → meth.locks = false → meth.sig.returnType = none → meth.name = y.name → AO s → G X p l e { frames := dp, cells := mc, slots := ms, locals := 35 * dp } s m args below meth c maxL 0 0 (fun (_ : Unit) σ' => MQ below (QC X' none σ') args s mc ms (xA X')) 0 (lv_args 0 av) [] σ o) : CN X X' l y bytes maxL dp mc ms av σ σ2 := by
  unfold CN
  rw [← hA]
  refine va_MetF (cc := bytes) (maxL := maxL) (ret := none) hy rfl ?_
  intro p e s m args below meth c s₁ B hml hv
  obtain ⟨rfl, hR, hX, hO⟩ := hv
  have hts := atoms_spec (ws := (Cond.code y bytes maxL none :: gw)) B.pre
  rw [lg_entry_eq]
  exact body p e s m _ below meth c ⟨B.exec, B.bytes, hml, findClass_of_methodNamed B.named, fun w hw => hts w (List.mem_cons_of_mem _ hw), hX⟩ B.notSynchronized B.returns (name_of_methodNamed B.named B.method).1 hO () σ2 ho s.heap [] _ hR va_S.rf (lv_entry av hlen)
theorem g_vretN {X : CX} {mc ms : Nat} (F : FR p s m args c cc nL own X) (hlk : meth.locks = false) (hr : meth.sig.returnType = none) (d : decode cc pc = .ok (.return_, 1)) : G X p l e R s m args below meth c nL mc ms (fun (_ : Unit) σ' => MQ below (QC X none σ') args s mc ms (xA X)) pc ls [] σ (some ((), σ)) :=
  fun r σ' ho H locs la hR hS hl => by
    cases ho
    exact W.vret F.1 F.2.1 hr (fun t ht _ => ⟨rfl, by rw [ht]; exact hR, hS.F ht⟩) hS.2.2 d hlk
/-- how a constructor is linked: by a plain link, or as a nest mate's private one -/
def CI (own : String) (index : Nat) (y : MethodName) (bytes : ByteArray) (maxL : Nat) : Prop :=
  (Cond.methodLink own index y ∈ gw ∨ (own, index, y, "SensorHub") ∈ nestL) ∧ Cond.instanceMethod y ∈ gw ∧ Cond.initialized y.cls ∈ gw ∧ Cond.code y bytes maxL none ∈ gw ∧ (y.cls ≠ "java/lang/invoke/MethodHandle" ∧ y.cls ≠ "java/lang/invoke/VarHandle") ∧ (parseMethodDescriptor y.desc).map (fun d => d.parameters.length) = some 0 ∧ y.name = "<init>"
theorem g_callI (F : FR p s m args c cc nL own (KX D b cA kA sh kz)) (hO : AO s) {y : MethodName} {bytes : ByteArray} {maxL dp mc ms index v : Nat} (hC : CN (KX D b cA kA sh kz) (KX D b cA kA sh' kz') l y bytes maxL dp mc ms [.ref (b + v)] σ σ2) (hW : CI own index y bytes maxL) (hcat : (rest.map fun v => v.category).sum ≤ 8) (hroom : dp + 1 ≤ R.frames ∧ 8 + (maxL + 11) + 35 * dp ≤ R.locals) (hck : ck + mc ≤ R.cells ∧ sk + ms ≤ R.slots) (d : decode cc pc = .ok (.invokespecial index, 3))
    (k : G (KX D b cA kA sh' kz') p l e R s m args below meth c nL (ck + mc) (sk + ms) Qf (pc + 3) ls rest σ2 o) : G (KX D b cA kA sh kz) p l e R s m args below meth c nL ck sk Qf pc ls (.ref (b + v) :: rest) σ o := by
  intro r σ' ho H locs la hR hS hl
  obtain ⟨hlink, hinst, hini, hcode, hy, hpar, hnm⟩ := hW
  obtain ⟨hx, hb, hml, hown, hts, hcx⟩ := F
  have hlen : ∀ sig, parseMethodDescriptor y.desc = some sig → 0 = sig.parameters.length := fun sig h => by
    rw [h] at hpar
    exact (Option.some.inj hpar).symm
  have hws : ∀ w ∈ (Cond.code y bytes maxL none :: gw), ∀ (a' : Array Value) (U : State), s.WarmedH U.vm → w.before a' U = true := fun w hw a' U hW => by
    have hw' : w ∈ gw := (List.mem_cons.mp hw).elim (fun q => by rw [q]; exact hcode) id
    exact word_at hW (good_of_word (gw_ok w hw')) (hts w hw')
  have hPre : PreS s H (va_Pc [.ref (b + v)] (fun U => Rep (KX D b cA kA sh kz) σ U.heap ∧ Cx (KX D b cA kA sh kz) U ∧ AO U)) (.ref (b + v) :: []) :=
    ⟨fun a U g mk q => ⟨q.1, q.2.1, Cx.same (u := U) (U := U.calling g mk a) rfl rfl q.2.2.1, AO.moved (u := U) (U := U.calling g mk a) (Vm.Alike.refl _) q.2.2.2⟩, fun U hU hW => ⟨rfl, by rw [hU]; exact hR, Cx.warm hW (by rw [hU]; exact hS.2.1) hcx, AO.moved hW.alike hO⟩⟩
  have run : va_Run p l e R s m args below meth c H locs ck sk mc ms (F0 m pc la (.ref (b + v) :: rest)) rest (QC (KX D b cA kA sh' kz') none σ2 (Value.ref (b + v) :: []).toArray) (xA (KX D b cA kA sh kz)) := by
    rcases hlink with hlink | hlink
    · exact va_runI (As := []) (n := 0) ⟨hx, hb, hml, hown, hts⟩ hC
        ⟨⟨rfl, rfl, hroom.1, hroom.2, hws, List.mem_cons_self, hts _ hcode, hts _ hini, hy, hlen, hts _ hlink⟩, hnm, hts _ hinst⟩ hPre rfl rfl hl.1 rfl (lv_room hcat) d hck
    · exact va_runIN (host := "SensorHub") (As := []) (n := 0) ⟨hx, hb, hml, hown, hts⟩ hC
        ⟨⟨⟨rfl, rfl, hroom.1, hroom.2, hws, List.mem_cons_self⟩, hts _ hcode, hts _ hini, hy, hlen, va_Nw.use rfl (hcx.2.2.2.1 _ hlink)⟩, hnm, hts _ hinst⟩ hPre rfl rfl hl.1 rfl (lv_room hcat) d hck
  intro T hT XX
  obtain ⟨v', st₀, t, T', L, h0, X', hL, e1, e2, hq2, hgo⟩ := run T hT XX
  obtain ⟨hv', hRep, hF⟩ := hq2
  cases hv'
  rw [← e1] at hRep
  obtain ⟨hz, hk⟩ := hF
  rw [h0, ← e1] at hz hk
  obtain ⟨t2, a1, b1⟩ := k r σ' ho T'.heap (locs ++ L) la hRep ⟨Nat.le_trans hS.1 hz, fun q h1 h2 => by rw [hk q (Nat.lt_of_lt_of_le h1 hS.1) h2]; exact hS.2.1 q h1 h2, fun q hq => by
    rcases List.mem_append.mp hq with h | h
    · exact hS.2.2 q h
    · exact hL q h⟩ hl T' rfl X'
  exact ⟨t2, hgo t2 a1, b1⟩
theorem g_newL {v0 index ci N n : Nat} {L : List Nat} {C : String} {T : u_T} (F : FR p s m args c cc nL own (KX D b cA kA sh' kz')) (hn : L.length = n) (ty : Nat → FieldType) (hc : classes[ci]? = some (C, T, N)) (hty : ∀ j, j < N → parseFieldDescriptor (T j).2.2.1 = some (ty j)) (hfs : ∀ j, j < N → defaultValue (ty j) = vp_V (fl (fun v => b + v) (fun _ => 0) (v0 + n) (spc (100 + 10 * ci)) 0) j)
    (hcl : Cond.classLink own index C ∈ gw) (hinst : Cond.instantiable C N ∈ gw) (hini : Cond.initialized C ∈ gw) (hσ : σ (v0 + n) = fun _ => 0) (hroom : ck + 1 ≤ R.cells ∧ sk + N ≤ R.slots) (d : decode cc pc = .ok (.new index, 3))
    (kk : G (KX D b cA kA (insL sh v0 (L ++ [100 + 10 * ci])) (v0 + (n + 1))) p l e R s m args below meth c nL (ck + 1) (sk + N) Qf (pc + 3) ls (.ref (b + (v0 + n)) :: rest) σ o) : G (KX D b cA kA (insL sh v0 L) (v0 + n)) p l e R s m args below meth c nL ck sk Qf pc ls rest σ o :=
  g_new F.chg ty hc hty hfs hcl hinst hini hσ hroom d (g_re (insL_push hn) rfl rfl rfl kk)
theorem g_newaIL {v0 n : Nat} {L : List Nat} (F : FR p s m args c cc nL own (KX D b cA kA sh' kz')) (hn : L.length = n) {x : Int32} {N : Nat} (hw : Cond.arrayClass .int ∈ gw) (hx : x.toInt = N) (hN : N ≤ 65536) (hσ : σ (v0 + n) = fun _ => 0) (hroom : ck + 1 ≤ R.cells ∧ sk + N ≤ R.slots) (d : decode cc pc = .ok (.newarray .int, 2))
    (kk : G (KX D b cA kA (insL sh v0 (L ++ [1000 + N])) (v0 + (n + 1))) p l e R s m args below meth c nL (ck + 1) (sk + N) Qf (pc + 2) ls (.ref (b + (v0 + n)) :: rest) σ o) : G (KX D b cA kA (insL sh v0 L) (v0 + n)) p l e R s m args below meth c nL ck sk Qf pc ls (.int x :: rest) σ o :=
  g_newaI F.chg hw hx hN hσ hroom d (g_re (insL_push hn) rfl rfl rfl kk)
theorem g_newaZL {v0 n : Nat} {L : List Nat} (F : FR p s m args c cc nL own (KX D b cA kA sh' kz')) (hn : L.length = n) (hw : Cond.arrayClass .boolean ∈ gw) (hσ : σ (v0 + n) = fun _ => 0) (hroom : ck + 1 ≤ R.cells ∧ sk + 8 ≤ R.slots) (d : decode cc pc = .ok (.newarray .boolean, 2))
    (kk : G (KX D b cA kA (insL sh v0 (L ++ [20])) (v0 + (n + 1))) p l e R s m args below meth c nL (ck + 1) (sk + 8) Qf (pc + 2) ls (.ref (b + (v0 + n)) :: rest) σ o) : G (KX D b cA kA (insL sh v0 L) (v0 + n)) p l e R s m args below meth c nL ck sk Qf pc ls (.int 8 :: rest) σ o :=
  g_newaZ F.chg hw hσ hroom d (g_re (insL_push hn) rfl rfl rfl kk)
theorem g_newqL {v0 n : Nat} {L : List Nat} (F : FR p s m args c cc nL own (KX D b cA kA sh' kz')) (hn : L.length = n) {x : Int32} {index : Nat} (κ t N : Nat) (C : String) (ht : (tys (KX D b cA kA sh kz))[t]? = some (cA t, .object C)) (hAO : va_AO C s) (hcl : Cond.classLink own index C ∈ gw) (hx : x.toInt = N) (hκ : (κ = 200 ∧ t = 2 ∧ N = 8) ∨ (κ = 220 ∧ t = 3 ∧ N = 8) ∨ (κ = 240 ∧ t = 4 ∧ N = 5)) (hroom : ck + 1 ≤ R.cells ∧ sk + N ≤ R.slots) (d : decode cc pc = .ok (.anewarray index, 3))
    (kk : G (KX D b cA kA (insL sh v0 (L ++ [κ])) (v0 + (n + 1))) p l e R s m args below meth c nL (ck + 1) (sk + N) Qf (pc + 3) ls (.ref (b + (v0 + n)) :: rest) σ o) : G (KX D b cA kA (insL sh v0 L) (v0 + n)) p l e R s m args below meth c nL ck sk Qf pc ls (.int x :: rest) σ o :=
  g_newq F.chg κ t N C ht hAO hcl hx hκ hroom d (g_re (insL_push hn) rfl rfl rfl kk)
theorem g_putRL {v0 w index ci j N i : Nat} {L : List Nat} {C : String} {T : u_T} (F : FR p s m args c cc nL own (KX D b cA kA sh' kz')) (κ κ' : Nat) (ty : FieldType) (hc : classes[ci]? = some (C, T, N)) (hj : j < N) (hd : (T j).1 = C) (hown : C = own) (hlk : Cond.fieldLink own index C (T j).2.1 (T j).2.2.1 ∈ gw) (hfin : (T j).2.2.2 = true) (hin2 : meth.name = "<init>") (hty : parseFieldDescriptor (T j).2.2.1 = some ty) (hn : ∀ a, narrow ty (.ref a) = .ref a) (hfit : ∀ a, fits ty (.ref a) = true)
    (hiL : i < L.length) (hv : L.getD i 0 = κ) (hκ : 100 ≤ κ ∧ κ < 200 ∧ cix κ = ci) (hκ' : cix κ' = ci ∧ (κ' < 20 ∨ (100 ≤ κ' ∧ κ' < 200))) (hset : ∀ f : Nat → Int32, (fl (fun v => b + v) f (v0 + i) (spc κ) 0).set j (.ref (b + w)) = fl (fun v => b + v) f (v0 + i) (spc κ') 0) (hlen : j < (spc κ).length) (d : decode cc pc = .ok (.putfield index, 3))
    (kk : G (KX D b cA kA (insL sh v0 (L.set i κ')) kz) p l e R s m args below meth c nL ck sk Qf (pc + 3) ls rest σ o) : G (KX D b cA kA (insL sh v0 L) kz) p l e R s m args below meth c nL ck sk Qf pc ls (.ref (b + w) :: .ref (b + (v0 + i)) :: rest) σ o :=
  g_putR F.chg κ κ' ty hc hj hd hown hlk hfin hin2 hty hn hfit (by rw [insL_at hiL]; exact hv) hκ hκ' hset hlen d (g_re (insL_set hiL) rfl rfl rfl kk)
theorem g_aastL {v0 iv iw : Nat} {L : List Nat} {i : Int32} (F : FR p s m args c cc nL own (KX D b cA kA sh' kz')) (j t n ci dd u base κ' full : Nat) (r0 : vw_C) (ht : (tys (KX D b cA kA sh kz))[t]? = some (cA t, .object r0.1)) (hc : classes[ci]? = some r0) (hiv : iv < L.length) (hv : L.getD iv 0 = base + j) (hj : j < n) (hi : i.toInt = j) (hκ' : κ' = if j + 1 = n then full else base + (j + 1)) (hk : (base = 200 ∧ full = 21 ∧ t = 2 ∧ n = 8 ∧ dd = 8 ∧ u = 2) ∨ (base = 220 ∧ full = 22 ∧ t = 3 ∧ n = 8 ∧ dd = 23 ∧ u = 2) ∨ (base = 240 ∧ full = 23 ∧ t = 4 ∧ n = 5 ∧ dd = 1 ∧ u = 42)) (hw : iw = iv + (dd + u * j)) (hiw : iw < L.length) (hwk : L.getD iw 0 = ci + 1) (d : decode cc pc = .ok (.aastore, 1))
    (kk : G (KX D b cA kA (insL sh v0 (L.set iv κ')) kz) p l e R s m args below meth c nL ck sk Qf (pc + 1) ls rest σ o) : G (KX D b cA kA (insL sh v0 L) kz) p l e R s m args below meth c nL ck sk Qf pc ls (.ref (b + (v0 + iw)) :: .int i :: .ref (b + (v0 + iv)) :: rest) σ o :=
  g_aast F.chg j t n ci dd u base κ' full r0 ht hc (by rw [insL_at hiv]; exact hv) hj hi hκ' hk (by omega) (by rw [insL_at hiw]; exact hwk) d (g_re (insL_set hiv) rfl rfl rfl kk)
theorem g_callIL {v0 n : Nat} {L M : List Nat} {κ : Nat} (F : FR p s m args c cc nL own (KX D b cA kA sh' kz')) (hO : AO s) {y : MethodName} {bytes : ByteArray} {maxL dp mc ms index : Nat} (hn : L.length = n) (hM : 1 ≤ M.length) (hC : CN (KX D b cA kA (insL sh v0 (L ++ [κ])) (v0 + (n + 1))) (KX D b cA kA (insL (insL sh v0 (L ++ [κ])) (v0 + n) M) (v0 + n + M.length)) l y bytes maxL dp mc ms [.ref (b + (v0 + n))] σ σ2) (hW : CI own index y bytes maxL) (hcat : (rest.map fun v => v.category).sum ≤ 8) (hroom : dp + 1 ≤ R.frames ∧ 8 + (maxL + 11) + 35 * dp ≤ R.locals) (hck : ck + mc ≤ R.cells ∧ sk + ms ≤ R.slots) (d : decode cc pc = .ok (.invokespecial index, 3))
    (k : G (KX D b cA kA (insL sh v0 (L ++ M)) (v0 + (n + M.length))) p l e R s m args below meth c nL (ck + mc) (sk + ms) Qf (pc + 3) ls rest σ2 o) : G (KX D b cA kA (insL sh v0 (L ++ [κ])) (v0 + (n + 1))) p l e R s m args below meth c nL ck sk Qf pc ls (.ref (b + (v0 + n)) :: rest) σ o :=
  g_callI F.chg hO hC hW hcat hroom hck d (g_re (insL_app hn hM) (by omega) rfl rfl k)
/-- how the list is written -/
theorem g_eqL {v0 : Nat} {L L' : List Nat} {k' : Nat} {st : List Value} (h : L = L') (hk : kz = k') (hc : ck = ck') (hs : sk = sk') (k : G (KX D b cA kA (insL sh v0 L') k') p l e R s m args below meth c nL ck' sk' Qf pc ls st σ o) : G (KX D b cA kA (insL sh v0 L) kz) p l e R s m args below meth c nL ck sk Qf pc ls st σ o := by
  subst h; subst hk; subst hc; subst hs; exact k
end CTOR
def y_Sen_init : MethodName := ⟨"SensorHub$Sensor", "<init>", "()V"⟩
theorem d_Sen_init_0 : decode prog_6_method_1_code 0 = .ok (.aload_n 0, 1) := by decide +kernel
theorem d_Sen_init_1 : decode prog_6_method_1_code 1 = .ok (.invokespecial 3, 3) := by decide +kernel
theorem d_Sen_init_4 : decode prog_6_method_1_code 4 = .ok (.aload_n 0, 1) := by decide +kernel
theorem d_Sen_init_5 : decode prog_6_method_1_code 5 = .ok (.bipush 8, 2) := by decide +kernel
theorem d_Sen_init_7 : decode prog_6_method_1_code 7 = .ok (.newarray .int, 2) := by decide +kernel
theorem d_Sen_init_9 : decode prog_6_method_1_code 9 = .ok (.putfield 9, 3) := by decide +kernel
theorem d_Sen_init_12 : decode prog_6_method_1_code 12 = .ok (.return_, 1) := by decide +kernel
def LSen : List Nat := [5, 1008]
set_option maxRecDepth 100000 in
set_option maxHeartbeats 4000000 in
theorem c_Sen_init {D : va_G} {b : Nat} {cA : Nat → ClassId} {kA sh : Nat → Nat} (l : Launch) (v0 : Nat) (hsh : sh v0 = 140) (σ : Mem) (hσ : ∀ v, v0 < v → σ v = fun _ => 0) : CN (KX D b cA kA sh (v0 + 1)) (KX D b cA kA (insL sh v0 LSen) (v0 + LSen.length)) l y_Sen_init prog_6_method_1_code 1 1 1 8 [.ref (b + v0)] σ σ := by
  refine CN_of (o := some ((), σ)) (by decide +kernel) (Nat.le_of_ble_eq_true rfl) (rfl) rfl ?_
  intro p e s m args below meth c F hlk hr hin hO
  have F : FR p s m args c prog_6_method_1_code 1 "SensorHub$Sensor" (KX D b cA kA sh (v0 + 1)) := F
  refine g_re (sh' := insL sh v0 [140]) (insL_one hsh) rfl rfl rfl ?_
  show G (KX D b cA kA (insL sh v0 [140]) (v0 + 1)) p l e { frames := 1, cells := 1, slots := 8, locals := 35 * 1 } s m args below meth c 1 0 0 _ 0 [(0, .ref (b + (v0 + 0)))] [] σ _
  refine g_aload_n F.chg d_Sen_init_0 0 rfl ?_
  refine g_objInit F.chg (gw_I 144 (by decide +kernel) rfl) (gw_I 91 (by decide +kernel) rfl) (gw_I 92 (by decide +kernel) rfl) ⟨Nat.le_of_ble_eq_true rfl, Nat.le_of_ble_eq_true rfl⟩ d_Sen_init_1 ?_
  refine g_aload_n F.chg d_Sen_init_4 0 rfl ?_
  refine g_bipush F.chg (v := 8) d_Sen_init_5 (by decide) ?_
  refine g_newaIL F (rfl : List.length [140] = 1) (N := 8) (gw_I 124 (by decide +kernel) rfl) (by decide) (by decide) (hσ (v0 + 1) (by omega)) ⟨Nat.le_of_ble_eq_true rfl, Nat.le_of_ble_eq_true rfl⟩ d_Sen_init_7 ?_
  refine g_eqL (L' := [140, 1008]) (k' := v0 + 2) (ck' := 1) (sk' := 8) (by decide +kernel) rfl rfl rfl ?_
  refine g_putRL F (i := 0) (w := v0 + 1) (j := 17) 140 5 (.array .int) (rfl : classes[4]? = some ("SensorHub$Sensor", T_4, 18)) (by decide) rfl rfl (gw_I 183 (by decide +kernel) rfl) rfl hin (by decide +kernel) (fun _ => rfl) (fun _ => rfl) (by decide) rfl (by decide) (by decide) (fun _ => rfl) (by decide) d_Sen_init_9 ?_
  refine g_eqL (L' := [5, 1008]) (k' := v0 + 2) (ck' := 1) (sk' := 8) (by decide +kernel) rfl rfl rfl ?_
  refine g_eqL (L' := LSen) (k' := v0 + 2) (ck' := 1) (sk' := 8) (by decide +kernel) rfl rfl rfl ?_
  exact g_vretN F.chg hlk hr d_Sen_init_12
def y_Cli_init : MethodName := ⟨"SensorHub$Client", "<init>", "()V"⟩
theorem d_Cli_init_0 : decode prog_2_method_1_code 0 = .ok (.aload_n 0, 1) := by decide +kernel
theorem d_Cli_init_1 : decode prog_2_method_1_code 1 = .ok (.invokespecial 3, 3) := by decide +kernel
theorem d_Cli_init_4 : decode prog_2_method_1_code 4 = .ok (.aload_n 0, 1) := by decide +kernel
theorem d_Cli_init_5 : decode prog_2_method_1_code 5 = .ok (.bipush 18, 2) := by decide +kernel
theorem d_Cli_init_7 : decode prog_2_method_1_code 7 = .ok (.newarray .int, 2) := by decide +kernel
theorem d_Cli_init_9 : decode prog_2_method_1_code 9 = .ok (.putfield 9, 3) := by decide +kernel
theorem d_Cli_init_12 : decode prog_2_method_1_code 12 = .ok (.return_, 1) := by decide +kernel
def LCli : List Nat := [1, 1018]
set_option maxRecDepth 100000 in
set_option maxHeartbeats 4000000 in
theorem c_Cli_init {D : va_G} {b : Nat} {cA : Nat → ClassId} {kA sh : Nat → Nat} (l : Launch) (v0 : Nat) (hsh : sh v0 = 100) (σ : Mem) (hσ : ∀ v, v0 < v → σ v = fun _ => 0) : CN (KX D b cA kA sh (v0 + 1)) (KX D b cA kA (insL sh v0 LCli) (v0 + LCli.length)) l y_Cli_init prog_2_method_1_code 1 1 1 18 [.ref (b + v0)] σ σ := by
  refine CN_of (o := some ((), σ)) (by decide +kernel) (Nat.le_of_ble_eq_true rfl) (rfl) rfl ?_
  intro p e s m args below meth c F hlk hr hin hO
  have F : FR p s m args c prog_2_method_1_code 1 "SensorHub$Client" (KX D b cA kA sh (v0 + 1)) := F
  refine g_re (sh' := insL sh v0 [100]) (insL_one hsh) rfl rfl rfl ?_
  show G (KX D b cA kA (insL sh v0 [100]) (v0 + 1)) p l e { frames := 1, cells := 1, slots := 18, locals := 35 * 1 } s m args below meth c 1 0 0 _ 0 [(0, .ref (b + (v0 + 0)))] [] σ _
  refine g_aload_n F.chg d_Cli_init_0 0 rfl ?_
  refine g_objInit F.chg (gw_I 225 (by decide +kernel) rfl) (gw_I 91 (by decide +kernel) rfl) (gw_I 92 (by decide +kernel) rfl) ⟨Nat.le_of_ble_eq_true rfl, Nat.le_of_ble_eq_true rfl⟩ d_Cli_init_1 ?_
  refine g_aload_n F.chg d_Cli_init_4 0 rfl ?_
  refine g_bipush F.chg (v := 18) d_Cli_init_5 (by decide) ?_
  refine g_newaIL F (rfl : List.length [100] = 1) (N := 18) (gw_I 124 (by decide +kernel) rfl) (by decide) (by decide) (hσ (v0 + 1) (by omega)) ⟨Nat.le_of_ble_eq_true rfl, Nat.le_of_ble_eq_true rfl⟩ d_Cli_init_7 ?_
  refine g_eqL (L' := [100, 1018]) (k' := v0 + 2) (ck' := 1) (sk' := 18) (by decide +kernel) rfl rfl rfl ?_
  refine g_putRL F (i := 0) (w := v0 + 1) (j := 10) 100 1 (.array .int) (rfl : classes[0]? = some ("SensorHub$Client", T_0, 11)) (by decide) rfl rfl (gw_I 251 (by decide +kernel) rfl) rfl hin (by decide +kernel) (fun _ => rfl) (fun _ => rfl) (by decide) rfl (by decide) (by decide) (fun _ => rfl) (by decide) d_Cli_init_9 ?_
  refine g_eqL (L' := [1, 1018]) (k' := v0 + 2) (ck' := 1) (sk' := 18) (by decide +kernel) rfl rfl rfl ?_
  refine g_eqL (L' := LCli) (k' := v0 + 2) (ck' := 1) (sk' := 18) (by decide +kernel) rfl rfl rfl ?_
  exact g_vretN F.chg hlk hr d_Cli_init_12
def y_Sto_init : MethodName := ⟨"SensorHub$Store", "<init>", "()V"⟩
theorem d_Sto_init_0 : decode prog_7_method_1_code 0 = .ok (.aload_n 0, 1) := by decide +kernel
theorem d_Sto_init_1 : decode prog_7_method_1_code 1 = .ok (.invokespecial 3, 3) := by decide +kernel
theorem d_Sto_init_4 : decode prog_7_method_1_code 4 = .ok (.aload_n 0, 1) := by decide +kernel
theorem d_Sto_init_5 : decode prog_7_method_1_code 5 = .ok (.bipush 90, 2) := by decide +kernel
theorem d_Sto_init_7 : decode prog_7_method_1_code 7 = .ok (.newarray .int, 2) := by decide +kernel
theorem d_Sto_init_9 : decode prog_7_method_1_code 9 = .ok (.putfield 9, 3) := by decide +kernel
theorem d_Sto_init_12 : decode prog_7_method_1_code 12 = .ok (.return_, 1) := by decide +kernel
def LSto : List Nat := [6, 1090]
set_option maxRecDepth 100000 in
set_option maxHeartbeats 4000000 in
theorem c_Sto_init {D : va_G} {b : Nat} {cA : Nat → ClassId} {kA sh : Nat → Nat} (l : Launch) (v0 : Nat) (hsh : sh v0 = 150) (σ : Mem) (hσ : ∀ v, v0 < v → σ v = fun _ => 0) : CN (KX D b cA kA sh (v0 + 1)) (KX D b cA kA (insL sh v0 LSto) (v0 + LSto.length)) l y_Sto_init prog_7_method_1_code 1 1 1 90 [.ref (b + v0)] σ σ := by
  refine CN_of (o := some ((), σ)) (by decide +kernel) (Nat.le_of_ble_eq_true rfl) (rfl) rfl ?_
  intro p e s m args below meth c F hlk hr hin hO
  have F : FR p s m args c prog_7_method_1_code 1 "SensorHub$Store" (KX D b cA kA sh (v0 + 1)) := F
  refine g_re (sh' := insL sh v0 [150]) (insL_one hsh) rfl rfl rfl ?_
  show G (KX D b cA kA (insL sh v0 [150]) (v0 + 1)) p l e { frames := 1, cells := 1, slots := 90, locals := 35 * 1 } s m args below meth c 1 0 0 _ 0 [(0, .ref (b + (v0 + 0)))] [] σ _
  refine g_aload_n F.chg d_Sto_init_0 0 rfl ?_
  refine g_objInit F.chg (gw_I 130 (by decide +kernel) rfl) (gw_I 91 (by decide +kernel) rfl) (gw_I 92 (by decide +kernel) rfl) ⟨Nat.le_of_ble_eq_true rfl, Nat.le_of_ble_eq_true rfl⟩ d_Sto_init_1 ?_
  refine g_aload_n F.chg d_Sto_init_4 0 rfl ?_
  refine g_bipush F.chg (v := 90) d_Sto_init_5 (by decide) ?_
  refine g_newaIL F (rfl : List.length [150] = 1) (N := 90) (gw_I 124 (by decide +kernel) rfl) (by decide) (by decide) (hσ (v0 + 1) (by omega)) ⟨Nat.le_of_ble_eq_true rfl, Nat.le_of_ble_eq_true rfl⟩ d_Sto_init_7 ?_
  refine g_eqL (L' := [150, 1090]) (k' := v0 + 2) (ck' := 1) (sk' := 90) (by decide +kernel) rfl rfl rfl ?_
  refine g_putRL F (i := 0) (w := v0 + 1) (j := 1) 150 6 (.array .int) (rfl : classes[5]? = some ("SensorHub$Store", T_5, 2)) (by decide) rfl rfl (gw_I 134 (by decide +kernel) rfl) rfl hin (by decide +kernel) (fun _ => rfl) (fun _ => rfl) (by decide) rfl (by decide) (by decide) (fun _ => rfl) (by decide) d_Sto_init_9 ?_
  refine g_eqL (L' := [6, 1090]) (k' := v0 + 2) (ck' := 1) (sk' := 90) (by decide +kernel) rfl rfl rfl ?_
  refine g_eqL (L' := LSto) (k' := v0 + 2) (ck' := 1) (sk' := 90) (by decide +kernel) rfl rfl rfl ?_
  exact g_vretN F.chg hlk hr d_Sto_init_12
def y_Txt_init : MethodName := ⟨"SensorHub$Text", "<init>", "()V"⟩
theorem d_Txt_init_0 : decode prog_8_method_1_code 0 = .ok (.aload_n 0, 1) := by decide +kernel
theorem d_Txt_init_1 : decode prog_8_method_1_code 1 = .ok (.invokespecial 3, 3) := by decide +kernel
theorem d_Txt_init_4 : decode prog_8_method_1_code 4 = .ok (.aload_n 0, 1) := by decide +kernel
theorem d_Txt_init_5 : decode prog_8_method_1_code 5 = .ok (.sipush 160, 3) := by decide +kernel
theorem d_Txt_init_8 : decode prog_8_method_1_code 8 = .ok (.newarray .int, 2) := by decide +kernel
theorem d_Txt_init_10 : decode prog_8_method_1_code 10 = .ok (.putfield 9, 3) := by decide +kernel
theorem d_Txt_init_13 : decode prog_8_method_1_code 13 = .ok (.return_, 1) := by decide +kernel
def LTxt : List Nat := [7, 1160]
set_option maxRecDepth 100000 in
set_option maxHeartbeats 4000000 in
theorem c_Txt_init {D : va_G} {b : Nat} {cA : Nat → ClassId} {kA sh : Nat → Nat} (l : Launch) (v0 : Nat) (hsh : sh v0 = 160) (σ : Mem) (hσ : ∀ v, v0 < v → σ v = fun _ => 0) : CN (KX D b cA kA sh (v0 + 1)) (KX D b cA kA (insL sh v0 LTxt) (v0 + LTxt.length)) l y_Txt_init prog_8_method_1_code 1 1 1 160 [.ref (b + v0)] σ σ := by
  refine CN_of (o := some ((), σ)) (by decide +kernel) (Nat.le_of_ble_eq_true rfl) (rfl) rfl ?_
  intro p e s m args below meth c F hlk hr hin hO
  have F : FR p s m args c prog_8_method_1_code 1 "SensorHub$Text" (KX D b cA kA sh (v0 + 1)) := F
  refine g_re (sh' := insL sh v0 [160]) (insL_one hsh) rfl rfl rfl ?_
  show G (KX D b cA kA (insL sh v0 [160]) (v0 + 1)) p l e { frames := 1, cells := 1, slots := 160, locals := 35 * 1 } s m args below meth c 1 0 0 _ 0 [(0, .ref (b + (v0 + 0)))] [] σ _
  refine g_aload_n F.chg d_Txt_init_0 0 rfl ?_
  refine g_objInit F.chg (gw_I 355 (by decide +kernel) rfl) (gw_I 91 (by decide +kernel) rfl) (gw_I 92 (by decide +kernel) rfl) ⟨Nat.le_of_ble_eq_true rfl, Nat.le_of_ble_eq_true rfl⟩ d_Txt_init_1 ?_
  refine g_aload_n F.chg d_Txt_init_4 0 rfl ?_
  refine g_sipush F.chg (v := 160) d_Txt_init_5 (by decide) ?_
  refine g_newaIL F (rfl : List.length [160] = 1) (N := 160) (gw_I 124 (by decide +kernel) rfl) (by decide) (by decide) (hσ (v0 + 1) (by omega)) ⟨Nat.le_of_ble_eq_true rfl, Nat.le_of_ble_eq_true rfl⟩ d_Txt_init_8 ?_
  refine g_eqL (L' := [160, 1160]) (k' := v0 + 2) (ck' := 1) (sk' := 160) (by decide +kernel) rfl rfl rfl ?_
  refine g_putRL F (i := 0) (w := v0 + 1) (j := 1) 160 7 (.array .int) (rfl : classes[6]? = some ("SensorHub$Text", T_6, 6)) (by decide) rfl rfl (gw_I 358 (by decide +kernel) rfl) rfl hin (by decide +kernel) (fun _ => rfl) (fun _ => rfl) (by decide) rfl (by decide) (by decide) (fun _ => rfl) (by decide) d_Txt_init_10 ?_
  refine g_eqL (L' := [7, 1160]) (k' := v0 + 2) (ck' := 1) (sk' := 160) (by decide +kernel) rfl rfl rfl ?_
  refine g_eqL (L' := LTxt) (k' := v0 + 2) (ck' := 1) (sk' := 160) (by decide +kernel) rfl rfl rfl ?_
  exact g_vretN F.chg hlk hr d_Txt_init_13
def y_Out_init : MethodName := ⟨"SensorHub$Outages", "<init>", "()V"⟩
theorem d_Out_init_0 : decode prog_5_method_1_code 0 = .ok (.aload_n 0, 1) := by decide +kernel
theorem d_Out_init_1 : decode prog_5_method_1_code 1 = .ok (.invokespecial 3, 3) := by decide +kernel
theorem d_Out_init_4 : decode prog_5_method_1_code 4 = .ok (.aload_n 0, 1) := by decide +kernel
theorem d_Out_init_5 : decode prog_5_method_1_code 5 = .ok (.iconst 4, 1) := by decide +kernel
theorem d_Out_init_6 : decode prog_5_method_1_code 6 = .ok (.newarray .int, 2) := by decide +kernel
theorem d_Out_init_8 : decode prog_5_method_1_code 8 = .ok (.putfield 9, 3) := by decide +kernel
theorem d_Out_init_11 : decode prog_5_method_1_code 11 = .ok (.aload_n 0, 1) := by decide +kernel
theorem d_Out_init_12 : decode prog_5_method_1_code 12 = .ok (.iconst 4, 1) := by decide +kernel
theorem d_Out_init_13 : decode prog_5_method_1_code 13 = .ok (.newarray .int, 2) := by decide +kernel
theorem d_Out_init_15 : decode prog_5_method_1_code 15 = .ok (.putfield 15, 3) := by decide +kernel
theorem d_Out_init_18 : decode prog_5_method_1_code 18 = .ok (.aload_n 0, 1) := by decide +kernel
theorem d_Out_init_19 : decode prog_5_method_1_code 19 = .ok (.iconst 4, 1) := by decide +kernel
theorem d_Out_init_20 : decode prog_5_method_1_code 20 = .ok (.newarray .int, 2) := by decide +kernel
theorem d_Out_init_22 : decode prog_5_method_1_code 22 = .ok (.putfield 18, 3) := by decide +kernel
theorem d_Out_init_25 : decode prog_5_method_1_code 25 = .ok (.return_, 1) := by decide +kernel
def LOut : List Nat := [4, 1004, 1004, 1004]
set_option maxRecDepth 100000 in
set_option maxHeartbeats 4000000 in
theorem c_Out_init {D : va_G} {b : Nat} {cA : Nat → ClassId} {kA sh : Nat → Nat} (l : Launch) (v0 : Nat) (hsh : sh v0 = 130) (σ : Mem) (hσ : ∀ v, v0 < v → σ v = fun _ => 0) : CN (KX D b cA kA sh (v0 + 1)) (KX D b cA kA (insL sh v0 LOut) (v0 + LOut.length)) l y_Out_init prog_5_method_1_code 1 1 3 12 [.ref (b + v0)] σ σ := by
  refine CN_of (o := some ((), σ)) (by decide +kernel) (Nat.le_of_ble_eq_true rfl) (rfl) rfl ?_
  intro p e s m args below meth c F hlk hr hin hO
  have F : FR p s m args c prog_5_method_1_code 1 "SensorHub$Outages" (KX D b cA kA sh (v0 + 1)) := F
  refine g_re (sh' := insL sh v0 [130]) (insL_one hsh) rfl rfl rfl ?_
  show G (KX D b cA kA (insL sh v0 [130]) (v0 + 1)) p l e { frames := 1, cells := 3, slots := 12, locals := 35 * 1 } s m args below meth c 1 0 0 _ 0 [(0, .ref (b + (v0 + 0)))] [] σ _
  refine g_aload_n F.chg d_Out_init_0 0 rfl ?_
  refine g_objInit F.chg (gw_I 108 (by decide +kernel) rfl) (gw_I 91 (by decide +kernel) rfl) (gw_I 92 (by decide +kernel) rfl) ⟨Nat.le_of_ble_eq_true rfl, Nat.le_of_ble_eq_true rfl⟩ d_Out_init_1 ?_
  refine g_aload_n F.chg d_Out_init_4 0 rfl ?_
  refine g_iconst F.chg (v := 4) d_Out_init_5 (by decide) ?_
  refine g_newaIL F (rfl : List.length [130] = 1) (N := 4) (gw_I 124 (by decide +kernel) rfl) (by decide) (by decide) (hσ (v0 + 1) (by omega)) ⟨Nat.le_of_ble_eq_true rfl, Nat.le_of_ble_eq_true rfl⟩ d_Out_init_6 ?_
  refine g_eqL (L' := [130, 1004]) (k' := v0 + 2) (ck' := 1) (sk' := 4) (by decide +kernel) rfl rfl rfl ?_
  refine g_putRL F (i := 0) (w := v0 + 1) (j := 1) 130 131 (.array .int) (rfl : classes[3]? = some ("SensorHub$Outages", T_3, 4)) (by decide) rfl rfl (gw_I 112 (by decide +kernel) rfl) rfl hin (by decide +kernel) (fun _ => rfl) (fun _ => rfl) (by decide) rfl (by decide) (by decide) (fun _ => rfl) (by decide) d_Out_init_8 ?_
  refine g_eqL (L' := [131, 1004]) (k' := v0 + 2) (ck' := 1) (sk' := 4) (by decide +kernel) rfl rfl rfl ?_
  refine g_aload_n F.chg d_Out_init_11 0 rfl ?_
  refine g_iconst F.chg (v := 4) d_Out_init_12 (by decide) ?_
  refine g_newaIL F (rfl : List.length [131, 1004] = 2) (N := 4) (gw_I 124 (by decide +kernel) rfl) (by decide) (by decide) (hσ (v0 + 2) (by omega)) ⟨Nat.le_of_ble_eq_true rfl, Nat.le_of_ble_eq_true rfl⟩ d_Out_init_13 ?_
  refine g_eqL (L' := [131, 1004, 1004]) (k' := v0 + 3) (ck' := 2) (sk' := 8) (by decide +kernel) rfl rfl rfl ?_
  refine g_putRL F (i := 0) (w := v0 + 2) (j := 2) 131 132 (.array .int) (rfl : classes[3]? = some ("SensorHub$Outages", T_3, 4)) (by decide) rfl rfl (gw_I 113 (by decide +kernel) rfl) rfl hin (by decide +kernel) (fun _ => rfl) (fun _ => rfl) (by decide) rfl (by decide) (by decide) (fun _ => rfl) (by decide) d_Out_init_15 ?_
  refine g_eqL (L' := [132, 1004, 1004]) (k' := v0 + 3) (ck' := 2) (sk' := 8) (by decide +kernel) rfl rfl rfl ?_
  refine g_aload_n F.chg d_Out_init_18 0 rfl ?_
  refine g_iconst F.chg (v := 4) d_Out_init_19 (by decide) ?_
  refine g_newaIL F (rfl : List.length [132, 1004, 1004] = 3) (N := 4) (gw_I 124 (by decide +kernel) rfl) (by decide) (by decide) (hσ (v0 + 3) (by omega)) ⟨Nat.le_of_ble_eq_true rfl, Nat.le_of_ble_eq_true rfl⟩ d_Out_init_20 ?_
  refine g_eqL (L' := [132, 1004, 1004, 1004]) (k' := v0 + 4) (ck' := 3) (sk' := 12) (by decide +kernel) rfl rfl rfl ?_
  refine g_putRL F (i := 0) (w := v0 + 3) (j := 3) 132 4 (.array .int) (rfl : classes[3]? = some ("SensorHub$Outages", T_3, 4)) (by decide) rfl rfl (gw_I 114 (by decide +kernel) rfl) rfl hin (by decide +kernel) (fun _ => rfl) (fun _ => rfl) (by decide) rfl (by decide) (by decide) (fun _ => rfl) (by decide) d_Out_init_22 ?_
  refine g_eqL (L' := [4, 1004, 1004, 1004]) (k' := v0 + 4) (ck' := 3) (sk' := 12) (by decide +kernel) rfl rfl rfl ?_
  refine g_eqL (L' := LOut) (k' := v0 + 4) (ck' := 3) (sk' := 12) (by decide +kernel) rfl rfl rfl ?_
  exact g_vretN F.chg hlk hr d_Out_init_25
def y_Hub_init : MethodName := ⟨"SensorHub$Hub", "<init>", "()V"⟩
theorem d_Hub_init_0 : decode prog_4_method_1_code 0 = .ok (.aload_n 0, 1) := by decide +kernel
theorem d_Hub_init_1 : decode prog_4_method_1_code 1 = .ok (.invokespecial 3, 3) := by decide +kernel
theorem d_Hub_init_4 : decode prog_4_method_1_code 4 = .ok (.aload_n 0, 1) := by decide +kernel
theorem d_Hub_init_5 : decode prog_4_method_1_code 5 = .ok (.iconst 4, 1) := by decide +kernel
theorem d_Hub_init_6 : decode prog_4_method_1_code 6 = .ok (.newarray .int, 2) := by decide +kernel
theorem d_Hub_init_8 : decode prog_4_method_1_code 8 = .ok (.putfield 9, 3) := by decide +kernel
theorem d_Hub_init_11 : decode prog_4_method_1_code 11 = .ok (.aload_n 0, 1) := by decide +kernel
theorem d_Hub_init_12 : decode prog_4_method_1_code 12 = .ok (.bipush 8, 2) := by decide +kernel
theorem d_Hub_init_14 : decode prog_4_method_1_code 14 = .ok (.anewarray 15, 3) := by decide +kernel
theorem d_Hub_init_17 : decode prog_4_method_1_code 17 = .ok (.putfield 17, 3) := by decide +kernel
theorem d_Hub_init_20 : decode prog_4_method_1_code 20 = .ok (.aload_n 0, 1) := by decide +kernel
theorem d_Hub_init_21 : decode prog_4_method_1_code 21 = .ok (.bipush 8, 2) := by decide +kernel
theorem d_Hub_init_23 : decode prog_4_method_1_code 23 = .ok (.anewarray 21, 3) := by decide +kernel
theorem d_Hub_init_26 : decode prog_4_method_1_code 26 = .ok (.putfield 23, 3) := by decide +kernel
theorem d_Hub_init_29 : decode prog_4_method_1_code 29 = .ok (.aload_n 0, 1) := by decide +kernel
theorem d_Hub_init_30 : decode prog_4_method_1_code 30 = .ok (.new 27, 3) := by decide +kernel
theorem d_Hub_init_33 : decode prog_4_method_1_code 33 = .ok (.dup, 1) := by decide +kernel
theorem d_Hub_init_34 : decode prog_4_method_1_code 34 = .ok (.invokespecial 29, 3) := by decide +kernel
theorem d_Hub_init_37 : decode prog_4_method_1_code 37 = .ok (.putfield 30, 3) := by decide +kernel
theorem d_Hub_init_40 : decode prog_4_method_1_code 40 = .ok (.aload_n 0, 1) := by decide +kernel
theorem d_Hub_init_41 : decode prog_4_method_1_code 41 = .ok (.new 34, 3) := by decide +kernel
theorem d_Hub_init_44 : decode prog_4_method_1_code 44 = .ok (.dup, 1) := by decide +kernel
theorem d_Hub_init_45 : decode prog_4_method_1_code 45 = .ok (.invokespecial 36, 3) := by decide +kernel
theorem d_Hub_init_48 : decode prog_4_method_1_code 48 = .ok (.putfield 37, 3) := by decide +kernel
theorem d_Hub_init_51 : decode prog_4_method_1_code 51 = .ok (.iconst 0, 1) := by decide +kernel
theorem d_Hub_init_52 : decode prog_4_method_1_code 52 = .ok (.istore_n 1, 1) := by decide +kernel
theorem d_Hub_init_53 : decode prog_4_method_1_code 53 = .ok (.iload_n 1, 1) := by decide +kernel
theorem d_Hub_init_54 : decode prog_4_method_1_code 54 = .ok (.bipush 8, 2) := by decide +kernel
theorem d_Hub_init_56 : decode prog_4_method_1_code 56 = .ok (.if_icmp .ge 22, 3) := by decide +kernel
theorem d_Hub_init_59 : decode prog_4_method_1_code 59 = .ok (.aload_n 0, 1) := by decide +kernel
theorem d_Hub_init_60 : decode prog_4_method_1_code 60 = .ok (.getfield 17, 3) := by decide +kernel
theorem d_Hub_init_63 : decode prog_4_method_1_code 63 = .ok (.iload_n 1, 1) := by decide +kernel
theorem d_Hub_init_64 : decode prog_4_method_1_code 64 = .ok (.new 15, 3) := by decide +kernel
theorem d_Hub_init_67 : decode prog_4_method_1_code 67 = .ok (.dup, 1) := by decide +kernel
theorem d_Hub_init_68 : decode prog_4_method_1_code 68 = .ok (.invokespecial 41, 3) := by decide +kernel
theorem d_Hub_init_71 : decode prog_4_method_1_code 71 = .ok (.aastore, 1) := by decide +kernel
theorem d_Hub_init_72 : decode prog_4_method_1_code 72 = .ok (.iinc 1 1, 3) := by decide +kernel
theorem d_Hub_init_75 : decode prog_4_method_1_code 75 = .ok (.goto (-22), 3) := by decide +kernel
theorem d_Hub_init_78 : decode prog_4_method_1_code 78 = .ok (.iconst 0, 1) := by decide +kernel
theorem d_Hub_init_79 : decode prog_4_method_1_code 79 = .ok (.istore_n 1, 1) := by decide +kernel
theorem d_Hub_init_80 : decode prog_4_method_1_code 80 = .ok (.iload_n 1, 1) := by decide +kernel
theorem d_Hub_init_81 : decode prog_4_method_1_code 81 = .ok (.bipush 8, 2) := by decide +kernel
theorem d_Hub_init_83 : decode prog_4_method_1_code 83 = .ok (.if_icmp .ge 22, 3) := by decide +kernel
theorem d_Hub_init_86 : decode prog_4_method_1_code 86 = .ok (.aload_n 0, 1) := by decide +kernel
theorem d_Hub_init_87 : decode prog_4_method_1_code 87 = .ok (.getfield 23, 3) := by decide +kernel
theorem d_Hub_init_90 : decode prog_4_method_1_code 90 = .ok (.iload_n 1, 1) := by decide +kernel
theorem d_Hub_init_91 : decode prog_4_method_1_code 91 = .ok (.new 21, 3) := by decide +kernel
theorem d_Hub_init_94 : decode prog_4_method_1_code 94 = .ok (.dup, 1) := by decide +kernel
theorem d_Hub_init_95 : decode prog_4_method_1_code 95 = .ok (.invokespecial 42, 3) := by decide +kernel
theorem d_Hub_init_98 : decode prog_4_method_1_code 98 = .ok (.aastore, 1) := by decide +kernel
theorem d_Hub_init_99 : decode prog_4_method_1_code 99 = .ok (.iinc 1 1, 3) := by decide +kernel
theorem d_Hub_init_102 : decode prog_4_method_1_code 102 = .ok (.goto (-22), 3) := by decide +kernel
theorem d_Hub_init_105 : decode prog_4_method_1_code 105 = .ok (.aload_n 0, 1) := by decide +kernel
theorem d_Hub_init_106 : decode prog_4_method_1_code 106 = .ok (.invokevirtual 43, 3) := by decide +kernel
theorem d_Hub_init_109 : decode prog_4_method_1_code 109 = .ok (.return_, 1) := by decide +kernel
theorem ci_2_29 : CI "SensorHub$Hub" 29 y_Out_init prog_5_method_1_code 1 := ⟨Or.inr (List.mem_of_getElem? (i := 0) rfl), gw_I 106 (by decide +kernel) rfl, gw_I 72 (by decide +kernel) rfl, gw_I 107 (by decide +kernel) rfl, ⟨by decide +kernel, by decide +kernel⟩, by decide +kernel, rfl⟩
theorem ci_2_36 : CI "SensorHub$Hub" 36 y_Sto_init prog_7_method_1_code 1 := ⟨Or.inr (List.mem_of_getElem? (i := 1) rfl), gw_I 128 (by decide +kernel) rfl, gw_I 73 (by decide +kernel) rfl, gw_I 129 (by decide +kernel) rfl, ⟨by decide +kernel, by decide +kernel⟩, by decide +kernel, rfl⟩
theorem ci_2_41 : CI "SensorHub$Hub" 41 y_Sen_init prog_6_method_1_code 1 := ⟨Or.inr (List.mem_of_getElem? (i := 2) rfl), gw_I 142 (by decide +kernel) rfl, gw_I 74 (by decide +kernel) rfl, gw_I 143 (by decide +kernel) rfl, ⟨by decide +kernel, by decide +kernel⟩, by decide +kernel, rfl⟩
theorem ci_2_42 : CI "SensorHub$Hub" 42 y_Cli_init prog_2_method_1_code 1 := ⟨Or.inr (List.mem_of_getElem? (i := 3) rfl), gw_I 223 (by decide +kernel) rfl, gw_I 75 (by decide +kernel) rfl, gw_I 224 (by decide +kernel) rfl, ⟨by decide +kernel, by decide +kernel⟩, by decide +kernel, rfl⟩
theorem cv_2_43 : CSV "SensorHub$Hub" 43 y_Hub_clear prog_4_method_2_code 3 none 0 := ⟨gw_I 275 (by decide +kernel) rfl, gw_I 276 (by decide +kernel) rfl, gw_I 277 (by decide +kernel) rfl, gw_I 71 (by decide +kernel) rfl, gw_I 278 (by decide +kernel) rfl, ⟨by decide +kernel, by decide +kernel⟩, by decide +kernel⟩
def LHub : List Nat := [3, 1004, 21, 22, 4, 1004, 1004, 1004, 6, 1090, 5, 1008, 5, 1008, 5, 1008, 5, 1008, 5, 1008, 5, 1008, 5, 1008, 5, 1008, 1, 1018, 1, 1018, 1, 1018, 1, 1018, 1, 1018, 1, 1018, 1, 1018, 1, 1018]
theorem hubOK_L {D : va_G} {b : Nat} {cA : Nat → ClassId} {kA sh : Nat → Nat} {v0 k : Nat} (h : ∀ j, j < 42 → sh (v0 + j) = LHub.getD j 0) : HubOK (KX D b cA kA sh k) v0 := by
  have H : ∀ (w j κ : Nat), w = v0 + j → j < 42 → LHub.getD j 0 = κ → sh w = κ := fun w j κ e hj e2 => by rw [e, h j hj, e2]
  refine ⟨H v0 0 3 rfl (by decide) rfl, H _ 1 _ rfl (by decide) rfl, H _ 2 _ rfl (by decide) rfl, H _ 3 _ rfl (by decide) rfl, ⟨H _ 4 _ rfl (by decide) rfl, H _ 5 _ rfl (by decide) rfl, H _ 6 _ rfl (by decide) rfl, H _ 7 _ rfl (by decide) rfl⟩, ⟨H _ 8 _ rfl (by decide) rfl, H _ 9 _ rfl (by decide) rfl⟩, fun i hi => ?_, fun i hi => ?_⟩
  · rcases (show i = 0 ∨ i = 1 ∨ i = 2 ∨ i = 3 ∨ i = 4 ∨ i = 5 ∨ i = 6 ∨ i = 7 by omega) with rfl | rfl | rfl | rfl | rfl | rfl | rfl | rfl
    all_goals first
      | exact ⟨H _ 10 _ rfl (by decide) rfl, H _ 11 _ rfl (by decide) rfl⟩
      | exact ⟨H _ 12 _ rfl (by decide) rfl, H _ 13 _ rfl (by decide) rfl⟩
      | exact ⟨H _ 14 _ rfl (by decide) rfl, H _ 15 _ rfl (by decide) rfl⟩
      | exact ⟨H _ 16 _ rfl (by decide) rfl, H _ 17 _ rfl (by decide) rfl⟩
      | exact ⟨H _ 18 _ rfl (by decide) rfl, H _ 19 _ rfl (by decide) rfl⟩
      | exact ⟨H _ 20 _ rfl (by decide) rfl, H _ 21 _ rfl (by decide) rfl⟩
      | exact ⟨H _ 22 _ rfl (by decide) rfl, H _ 23 _ rfl (by decide) rfl⟩
      | exact ⟨H _ 24 _ rfl (by decide) rfl, H _ 25 _ rfl (by decide) rfl⟩
  · rcases (show i = 0 ∨ i = 1 ∨ i = 2 ∨ i = 3 ∨ i = 4 ∨ i = 5 ∨ i = 6 ∨ i = 7 by omega) with rfl | rfl | rfl | rfl | rfl | rfl | rfl | rfl
    all_goals first
      | exact ⟨H _ 26 _ rfl (by decide) rfl, H _ 27 _ rfl (by decide) rfl⟩
      | exact ⟨H _ 28 _ rfl (by decide) rfl, H _ 29 _ rfl (by decide) rfl⟩
      | exact ⟨H _ 30 _ rfl (by decide) rfl, H _ 31 _ rfl (by decide) rfl⟩
      | exact ⟨H _ 32 _ rfl (by decide) rfl, H _ 33 _ rfl (by decide) rfl⟩
      | exact ⟨H _ 34 _ rfl (by decide) rfl, H _ 35 _ rfl (by decide) rfl⟩
      | exact ⟨H _ 36 _ rfl (by decide) rfl, H _ 37 _ rfl (by decide) rfl⟩
      | exact ⟨H _ 38 _ rfl (by decide) rfl, H _ 39 _ rfl (by decide) rfl⟩
      | exact ⟨H _ 40 _ rfl (by decide) rfl, H _ 41 _ rfl (by decide) rfl⟩
set_option maxRecDepth 100000 in
set_option maxHeartbeats 4000000 in
theorem c_Hub_init {D : va_G} {b : Nat} {cA : Nat → ClassId} {kA sh : Nat → Nat} (l : Launch) (v0 : Nat) (hsh : sh v0 = 120) (σ σ2 : Mem) (hσ : ∀ v, v0 < v → σ v = fun _ => 0) (hc : f_Hub_clear v0 σ = some ((), σ2)) : CN (KX D b cA kA sh (v0 + 1)) (KX D b cA kA (insL sh v0 LHub) (v0 + LHub.length)) l y_Hub_init prog_4_method_1_code 2 3 41 568 [.ref (b + v0)] σ σ2 := by
  refine CN_of (o := bd (f_Hub_clear v0 σ) (fun _ τ => some ((), τ))) (by decide +kernel) (Nat.le_of_ble_eq_true rfl) (by rw [hc]; rfl) rfl ?_
  intro p e s m args below meth c F hlk hr hin hO
  have F : FR p s m args c prog_4_method_1_code 2 "SensorHub$Hub" (KX D b cA kA sh (v0 + 1)) := F
  refine g_re (sh' := insL sh v0 [120]) (insL_one hsh) rfl rfl rfl ?_
  show G (KX D b cA kA (insL sh v0 [120]) (v0 + 1)) p l e { frames := 3, cells := 41, slots := 568, locals := 35 * 3 } s m args below meth c 2 0 0 _ 0 [(0, .ref (b + (v0 + 0)))] [] σ _
  refine g_aload_n F.chg d_Hub_init_0 0 rfl ?_
  refine g_objInit F.chg (gw_I 98 (by decide +kernel) rfl) (gw_I 91 (by decide +kernel) rfl) (gw_I 92 (by decide +kernel) rfl) ⟨Nat.le_of_ble_eq_true rfl, Nat.le_of_ble_eq_true rfl⟩ d_Hub_init_1 ?_
  refine g_aload_n F.chg d_Hub_init_4 0 rfl ?_
  refine g_iconst F.chg (v := 4) d_Hub_init_5 (by decide) ?_
  refine g_newaIL F (rfl : List.length [120] = 1) (N := 4) (gw_I 124 (by decide +kernel) rfl) (by decide) (by decide) (hσ (v0 + 1) (by omega)) ⟨Nat.le_of_ble_eq_true rfl, Nat.le_of_ble_eq_true rfl⟩ d_Hub_init_6 ?_
  refine g_eqL (L' := [120, 1004]) (k' := v0 + 2) (ck' := 1) (sk' := 4) (by decide +kernel) rfl rfl rfl ?_
  refine g_putRL F (i := 0) (w := v0 + 1) (j := 6) 120 121 (.array .int) (rfl : classes[2]? = some ("SensorHub$Hub", T_2, 11)) (by decide) rfl rfl (gw_I 299 (by decide +kernel) rfl) rfl hin (by decide +kernel) (fun _ => rfl) (fun _ => rfl) (by decide) rfl (by decide) (by decide) (fun _ => rfl) (by decide) d_Hub_init_8 ?_
  refine g_eqL (L' := [121, 1004]) (k' := v0 + 2) (ck' := 1) (sk' := 4) (by decide +kernel) rfl rfl rfl ?_
  refine g_aload_n F.chg d_Hub_init_11 0 rfl ?_
  refine g_bipush F.chg (v := 8) d_Hub_init_12 (by decide) ?_
  refine g_newqL (kz := 0) F (rfl : List.length [121, 1004] = 2) 200 2 8 "SensorHub$Sensor" rfl hO.1 (gw_I 99 (by decide +kernel) rfl) (by decide) (Or.inl ⟨rfl, rfl, rfl⟩) ⟨Nat.le_of_ble_eq_true rfl, Nat.le_of_ble_eq_true rfl⟩ d_Hub_init_14 ?_
  refine g_eqL (L' := [121, 1004, 200]) (k' := v0 + 3) (ck' := 2) (sk' := 12) (by decide +kernel) rfl rfl rfl ?_
  refine g_putRL F (i := 0) (w := v0 + 2) (j := 7) 121 122 (.array (.object "SensorHub$Sensor")) (rfl : classes[2]? = some ("SensorHub$Hub", T_2, 11)) (by decide) rfl rfl (gw_I 300 (by decide +kernel) rfl) rfl hin (by decide +kernel) (fun _ => rfl) (fun _ => rfl) (by decide) rfl (by decide) (by decide) (fun _ => rfl) (by decide) d_Hub_init_17 ?_
  refine g_eqL (L' := [122, 1004, 200]) (k' := v0 + 3) (ck' := 2) (sk' := 12) (by decide +kernel) rfl rfl rfl ?_
  refine g_aload_n F.chg d_Hub_init_20 0 rfl ?_
  refine g_bipush F.chg (v := 8) d_Hub_init_21 (by decide) ?_
  refine g_newqL (kz := 0) F (rfl : List.length [122, 1004, 200] = 3) 220 3 8 "SensorHub$Client" rfl hO.2.1 (gw_I 101 (by decide +kernel) rfl) (by decide) (Or.inr (Or.inl ⟨rfl, rfl, rfl⟩)) ⟨Nat.le_of_ble_eq_true rfl, Nat.le_of_ble_eq_true rfl⟩ d_Hub_init_23 ?_
  refine g_eqL (L' := [122, 1004, 200, 220]) (k' := v0 + 4) (ck' := 3) (sk' := 20) (by decide +kernel) rfl rfl rfl ?_
  refine g_putRL F (i := 0) (w := v0 + 3) (j := 8) 122 123 (.array (.object "SensorHub$Client")) (rfl : classes[2]? = some ("SensorHub$Hub", T_2, 11)) (by decide) rfl rfl (gw_I 301 (by decide +kernel) rfl) rfl hin (by decide +kernel) (fun _ => rfl) (fun _ => rfl) (by decide) rfl (by decide) (by decide) (fun _ => rfl) (by decide) d_Hub_init_26 ?_
  refine g_eqL (L' := [123, 1004, 200, 220]) (k' := v0 + 4) (ck' := 3) (sk' := 20) (by decide +kernel) rfl rfl rfl ?_
  refine g_aload_n F.chg d_Hub_init_29 0 rfl ?_
  refine g_newL F (rfl : List.length [123, 1004, 200, 220] = 4) ty_3 (rfl : classes[3]? = some ("SensorHub$Outages", T_3, 4)) tyok_3 (fun j hj => by rcases (show j = 0 ∨ j = 1 ∨ j = 2 ∨ j = 3 by omega) with rfl | rfl | rfl | rfl <;> rfl) (gw_I 103 (by decide +kernel) rfl) (gw_I 104 (by decide +kernel) rfl) (gw_I 72 (by decide +kernel) rfl) (hσ (v0 + 4) (by omega)) ⟨Nat.le_of_ble_eq_true rfl, Nat.le_of_ble_eq_true rfl⟩ d_Hub_init_30 ?_
  refine g_dup F.chg d_Hub_init_33 rfl ?_
  refine g_callIL (M := LOut) F hO (rfl : List.length [123, 1004, 200, 220] = 4) (by decide) (c_Out_init l (v0 + 4) (by rw [insL_at (by decide)]; rfl) σ (fun v hv => hσ v (by omega))) ci_2_29 (Nat.le_of_ble_eq_true rfl) ⟨Nat.le_of_ble_eq_true rfl, Nat.le_of_ble_eq_true rfl⟩ ⟨Nat.le_of_ble_eq_true rfl, Nat.le_of_ble_eq_true rfl⟩ d_Hub_init_34 ?_
  refine g_eqL (L' := [123, 1004, 200, 220, 4, 1004, 1004, 1004]) (k' := v0 + 8) (ck' := 7) (sk' := 36) (by decide +kernel) rfl rfl rfl ?_
  refine g_putRL F (i := 0) (w := v0 + 4) (j := 9) 123 124 (.object "SensorHub$Outages") (rfl : classes[2]? = some ("SensorHub$Hub", T_2, 11)) (by decide) rfl rfl (gw_I 302 (by decide +kernel) rfl) rfl hin (by decide +kernel) (fun _ => rfl) (fun _ => rfl) (by decide) rfl (by decide) (by decide) (fun _ => rfl) (by decide) d_Hub_init_37 ?_
  refine g_eqL (L' := [124, 1004, 200, 220, 4, 1004, 1004, 1004]) (k' := v0 + 8) (ck' := 7) (sk' := 36) (by decide +kernel) rfl rfl rfl ?_
  refine g_aload_n F.chg d_Hub_init_40 0 rfl ?_
  refine g_newL F (rfl : List.length [124, 1004, 200, 220, 4, 1004, 1004, 1004] = 8) ty_5 (rfl : classes[5]? = some ("SensorHub$Store", T_5, 2)) tyok_5 (fun j hj => by rcases (show j = 0 ∨ j = 1 by omega) with rfl | rfl <;> rfl) (gw_I 125 (by decide +kernel) rfl) (gw_I 126 (by decide +kernel) rfl) (gw_I 73 (by decide +kernel) rfl) (hσ (v0 + 8) (by omega)) ⟨Nat.le_of_ble_eq_true rfl, Nat.le_of_ble_eq_true rfl⟩ d_Hub_init_41 ?_
  refine g_dup F.chg d_Hub_init_44 rfl ?_
  refine g_callIL (M := LSto) F hO (rfl : List.length [124, 1004, 200, 220, 4, 1004, 1004, 1004] = 8) (by decide) (c_Sto_init l (v0 + 8) (by rw [insL_at (by decide)]; rfl) σ (fun v hv => hσ v (by omega))) ci_2_36 (Nat.le_of_ble_eq_true rfl) ⟨Nat.le_of_ble_eq_true rfl, Nat.le_of_ble_eq_true rfl⟩ ⟨Nat.le_of_ble_eq_true rfl, Nat.le_of_ble_eq_true rfl⟩ d_Hub_init_45 ?_
  refine g_eqL (L' := [124, 1004, 200, 220, 4, 1004, 1004, 1004, 6, 1090]) (k' := v0 + 10) (ck' := 9) (sk' := 128) (by decide +kernel) rfl rfl rfl ?_
  refine g_putRL F (i := 0) (w := v0 + 8) (j := 10) 124 3 (.object "SensorHub$Store") (rfl : classes[2]? = some ("SensorHub$Hub", T_2, 11)) (by decide) rfl rfl (gw_I 305 (by decide +kernel) rfl) rfl hin (by decide +kernel) (fun _ => rfl) (fun _ => rfl) (by decide) rfl (by decide) (by decide) (fun _ => rfl) (by decide) d_Hub_init_48 ?_
  refine g_eqL (L' := [3, 1004, 200, 220, 4, 1004, 1004, 1004, 6, 1090]) (k' := v0 + 10) (ck' := 9) (sk' := 128) (by decide +kernel) rfl rfl rfl ?_
  refine g_iconst F.chg (v := 0) d_Hub_init_51 (by decide) ?_
  refine g_istore_n F.chg (ls' := [(1, .int 0), (0, .ref (b + (v0 + 0)))]) d_Hub_init_52 (by decide) rfl ?_
  refine g_iload_n F.chg d_Hub_init_53 0 rfl ?_
  refine g_bipush F.chg (v := 8) d_Hub_init_54 (by decide) ?_
  refine g_pf (q := (8 : Int32) ≤ 0) (by decide) (g_icmp_ge F.chg (tgt := 78) d_Hub_init_56 (by decide) (fun _ => g_no) (fun _ => ?_))
  refine g_aload_n F.chg d_Hub_init_59 1 rfl ?_
  refine g_getR F.chg fs_2_17 (v := v0 + 0) (by show insL _ _ _ (v0 + 0) = _; rw [insL_at (by decide)]; rfl) rfl d_Hub_init_60 ?_
  refine g_iload_n F.chg d_Hub_init_63 0 rfl ?_
  refine g_newL F (rfl : List.length [3, 1004, 200, 220, 4, 1004, 1004, 1004, 6, 1090] = 10) ty_4 (rfl : classes[4]? = some ("SensorHub$Sensor", T_4, 18)) tyok_4 (fun j hj => by rcases (show j = 0 ∨ j = 1 ∨ j = 2 ∨ j = 3 ∨ j = 4 ∨ j = 5 ∨ j = 6 ∨ j = 7 ∨ j = 8 ∨ j = 9 ∨ j = 10 ∨ j = 11 ∨ j = 12 ∨ j = 13 ∨ j = 14 ∨ j = 15 ∨ j = 16 ∨ j = 17 by omega) with rfl | rfl | rfl | rfl | rfl | rfl | rfl | rfl | rfl | rfl | rfl | rfl | rfl | rfl | rfl | rfl | rfl | rfl <;> rfl) (gw_I 99 (by decide +kernel) rfl) (gw_I 140 (by decide +kernel) rfl) (gw_I 74 (by decide +kernel) rfl) (hσ (v0 + 10) (by omega)) ⟨Nat.le_of_ble_eq_true rfl, Nat.le_of_ble_eq_true rfl⟩ d_Hub_init_64 ?_
  refine g_dup F.chg d_Hub_init_67 rfl ?_
  refine g_callIL (M := LSen) F hO (rfl : List.length [3, 1004, 200, 220, 4, 1004, 1004, 1004, 6, 1090] = 10) (by decide) (c_Sen_init l (v0 + 10) (by rw [insL_at (by decide)]; rfl) σ (fun v hv => hσ v (by omega))) ci_2_41 (Nat.le_of_ble_eq_true rfl) ⟨Nat.le_of_ble_eq_true rfl, Nat.le_of_ble_eq_true rfl⟩ ⟨Nat.le_of_ble_eq_true rfl, Nat.le_of_ble_eq_true rfl⟩ d_Hub_init_68 ?_
  refine g_eqL (L' := [3, 1004, 200, 220, 4, 1004, 1004, 1004, 6, 1090, 5, 1008]) (k' := v0 + 12) (ck' := 11) (sk' := 154) (by decide +kernel) rfl rfl rfl ?_
  refine g_aastL (kz := v0 + 12) (L := [3, 1004, 200, 220, 4, 1004, 1004, 1004, 6, 1090, 5, 1008]) (i := 0) (iv := 2) (iw := 10) F 0 2 8 4 8 2 200 201 21 ("SensorHub$Sensor", T_4, 18) rfl rfl (by decide) rfl (by decide) (by decide) rfl (by simp) (by decide) (by decide) rfl d_Hub_init_71 ?_
  refine g_eqL (L' := [3, 1004, 201, 220, 4, 1004, 1004, 1004, 6, 1090, 5, 1008]) (k' := v0 + 12) (ck' := 11) (sk' := 154) (by decide +kernel) rfl rfl rfl ?_
  refine g_iinc F.chg (v := 1) (ls' := [(1, .int 1), (0, .ref (b + (v0 + 0)))]) d_Hub_init_72 0 rfl (by decide) (by decide) rfl ?_
  refine g_goto F.chg (tgt := 53) d_Hub_init_75 (by decide) ?_
  refine g_iload_n F.chg d_Hub_init_53 0 rfl ?_
  refine g_bipush F.chg (v := 8) d_Hub_init_54 (by decide) ?_
  refine g_pf (q := (8 : Int32) ≤ 1) (by decide) (g_icmp_ge F.chg (tgt := 78) d_Hub_init_56 (by decide) (fun _ => g_no) (fun _ => ?_))
  refine g_aload_n F.chg d_Hub_init_59 1 rfl ?_
  refine g_getR F.chg fs_2_17 (v := v0 + 0) (by show insL _ _ _ (v0 + 0) = _; rw [insL_at (by decide)]; rfl) rfl d_Hub_init_60 ?_
  refine g_iload_n F.chg d_Hub_init_63 0 rfl ?_
  refine g_newL F (rfl : List.length [3, 1004, 201, 220, 4, 1004, 1004, 1004, 6, 1090, 5, 1008] = 12) ty_4 (rfl : classes[4]? = some ("SensorHub$Sensor", T_4, 18)) tyok_4 (fun j hj => by rcases (show j = 0 ∨ j = 1 ∨ j = 2 ∨ j = 3 ∨ j = 4 ∨ j = 5 ∨ j = 6 ∨ j = 7 ∨ j = 8 ∨ j = 9 ∨ j = 10 ∨ j = 11 ∨ j = 12 ∨ j = 13 ∨ j = 14 ∨ j = 15 ∨ j = 16 ∨ j = 17 by omega) with rfl | rfl | rfl | rfl | rfl | rfl | rfl | rfl | rfl | rfl | rfl | rfl | rfl | rfl | rfl | rfl | rfl | rfl <;> rfl) (gw_I 99 (by decide +kernel) rfl) (gw_I 140 (by decide +kernel) rfl) (gw_I 74 (by decide +kernel) rfl) (hσ (v0 + 12) (by omega)) ⟨Nat.le_of_ble_eq_true rfl, Nat.le_of_ble_eq_true rfl⟩ d_Hub_init_64 ?_
  refine g_dup F.chg d_Hub_init_67 rfl ?_
  refine g_callIL (M := LSen) F hO (rfl : List.length [3, 1004, 201, 220, 4, 1004, 1004, 1004, 6, 1090, 5, 1008] = 12) (by decide) (c_Sen_init l (v0 + 12) (by rw [insL_at (by decide)]; rfl) σ (fun v hv => hσ v (by omega))) ci_2_41 (Nat.le_of_ble_eq_true rfl) ⟨Nat.le_of_ble_eq_true rfl, Nat.le_of_ble_eq_true rfl⟩ ⟨Nat.le_of_ble_eq_true rfl, Nat.le_of_ble_eq_true rfl⟩ d_Hub_init_68 ?_
  refine g_eqL (L' := [3, 1004, 201, 220, 4, 1004, 1004, 1004, 6, 1090, 5, 1008, 5, 1008]) (k' := v0 + 14) (ck' := 13) (sk' := 180) (by decide +kernel) rfl rfl rfl ?_
  refine g_aastL (kz := v0 + 14) (L := [3, 1004, 201, 220, 4, 1004, 1004, 1004, 6, 1090, 5, 1008, 5, 1008]) (i := 1) (iv := 2) (iw := 12) F 1 2 8 4 8 2 200 202 21 ("SensorHub$Sensor", T_4, 18) rfl rfl (by decide) rfl (by decide) (by decide) rfl (by simp) (by decide) (by decide) rfl d_Hub_init_71 ?_
  refine g_eqL (L' := [3, 1004, 202, 220, 4, 1004, 1004, 1004, 6, 1090, 5, 1008, 5, 1008]) (k' := v0 + 14) (ck' := 13) (sk' := 180) (by decide +kernel) rfl rfl rfl ?_
  refine g_iinc F.chg (v := 1) (ls' := [(1, .int 2), (0, .ref (b + (v0 + 0)))]) d_Hub_init_72 0 rfl (by decide) (by decide) rfl ?_
  refine g_goto F.chg (tgt := 53) d_Hub_init_75 (by decide) ?_
  refine g_iload_n F.chg d_Hub_init_53 0 rfl ?_
  refine g_bipush F.chg (v := 8) d_Hub_init_54 (by decide) ?_
  refine g_pf (q := (8 : Int32) ≤ 2) (by decide) (g_icmp_ge F.chg (tgt := 78) d_Hub_init_56 (by decide) (fun _ => g_no) (fun _ => ?_))
  refine g_aload_n F.chg d_Hub_init_59 1 rfl ?_
  refine g_getR F.chg fs_2_17 (v := v0 + 0) (by show insL _ _ _ (v0 + 0) = _; rw [insL_at (by decide)]; rfl) rfl d_Hub_init_60 ?_
  refine g_iload_n F.chg d_Hub_init_63 0 rfl ?_
  refine g_newL F (rfl : List.length [3, 1004, 202, 220, 4, 1004, 1004, 1004, 6, 1090, 5, 1008, 5, 1008] = 14) ty_4 (rfl : classes[4]? = some ("SensorHub$Sensor", T_4, 18)) tyok_4 (fun j hj => by rcases (show j = 0 ∨ j = 1 ∨ j = 2 ∨ j = 3 ∨ j = 4 ∨ j = 5 ∨ j = 6 ∨ j = 7 ∨ j = 8 ∨ j = 9 ∨ j = 10 ∨ j = 11 ∨ j = 12 ∨ j = 13 ∨ j = 14 ∨ j = 15 ∨ j = 16 ∨ j = 17 by omega) with rfl | rfl | rfl | rfl | rfl | rfl | rfl | rfl | rfl | rfl | rfl | rfl | rfl | rfl | rfl | rfl | rfl | rfl <;> rfl) (gw_I 99 (by decide +kernel) rfl) (gw_I 140 (by decide +kernel) rfl) (gw_I 74 (by decide +kernel) rfl) (hσ (v0 + 14) (by omega)) ⟨Nat.le_of_ble_eq_true rfl, Nat.le_of_ble_eq_true rfl⟩ d_Hub_init_64 ?_
  refine g_dup F.chg d_Hub_init_67 rfl ?_
  refine g_callIL (M := LSen) F hO (rfl : List.length [3, 1004, 202, 220, 4, 1004, 1004, 1004, 6, 1090, 5, 1008, 5, 1008] = 14) (by decide) (c_Sen_init l (v0 + 14) (by rw [insL_at (by decide)]; rfl) σ (fun v hv => hσ v (by omega))) ci_2_41 (Nat.le_of_ble_eq_true rfl) ⟨Nat.le_of_ble_eq_true rfl, Nat.le_of_ble_eq_true rfl⟩ ⟨Nat.le_of_ble_eq_true rfl, Nat.le_of_ble_eq_true rfl⟩ d_Hub_init_68 ?_
  refine g_eqL (L' := [3, 1004, 202, 220, 4, 1004, 1004, 1004, 6, 1090, 5, 1008, 5, 1008, 5, 1008]) (k' := v0 + 16) (ck' := 15) (sk' := 206) (by decide +kernel) rfl rfl rfl ?_
  refine g_aastL (kz := v0 + 16) (L := [3, 1004, 202, 220, 4, 1004, 1004, 1004, 6, 1090, 5, 1008, 5, 1008, 5, 1008]) (i := 2) (iv := 2) (iw := 14) F 2 2 8 4 8 2 200 203 21 ("SensorHub$Sensor", T_4, 18) rfl rfl (by decide) rfl (by decide) (by decide) rfl (by simp) (by decide) (by decide) rfl d_Hub_init_71 ?_
  refine g_eqL (L' := [3, 1004, 203, 220, 4, 1004, 1004, 1004, 6, 1090, 5, 1008, 5, 1008, 5, 1008]) (k' := v0 + 16) (ck' := 15) (sk' := 206) (by decide +kernel) rfl rfl rfl ?_
  refine g_iinc F.chg (v := 1) (ls' := [(1, .int 3), (0, .ref (b + (v0 + 0)))]) d_Hub_init_72 0 rfl (by decide) (by decide) rfl ?_
  refine g_goto F.chg (tgt := 53) d_Hub_init_75 (by decide) ?_
  refine g_iload_n F.chg d_Hub_init_53 0 rfl ?_
  refine g_bipush F.chg (v := 8) d_Hub_init_54 (by decide) ?_
  refine g_pf (q := (8 : Int32) ≤ 3) (by decide) (g_icmp_ge F.chg (tgt := 78) d_Hub_init_56 (by decide) (fun _ => g_no) (fun _ => ?_))
  refine g_aload_n F.chg d_Hub_init_59 1 rfl ?_
  refine g_getR F.chg fs_2_17 (v := v0 + 0) (by show insL _ _ _ (v0 + 0) = _; rw [insL_at (by decide)]; rfl) rfl d_Hub_init_60 ?_
  refine g_iload_n F.chg d_Hub_init_63 0 rfl ?_
  refine g_newL F (rfl : List.length [3, 1004, 203, 220, 4, 1004, 1004, 1004, 6, 1090, 5, 1008, 5, 1008, 5, 1008] = 16) ty_4 (rfl : classes[4]? = some ("SensorHub$Sensor", T_4, 18)) tyok_4 (fun j hj => by rcases (show j = 0 ∨ j = 1 ∨ j = 2 ∨ j = 3 ∨ j = 4 ∨ j = 5 ∨ j = 6 ∨ j = 7 ∨ j = 8 ∨ j = 9 ∨ j = 10 ∨ j = 11 ∨ j = 12 ∨ j = 13 ∨ j = 14 ∨ j = 15 ∨ j = 16 ∨ j = 17 by omega) with rfl | rfl | rfl | rfl | rfl | rfl | rfl | rfl | rfl | rfl | rfl | rfl | rfl | rfl | rfl | rfl | rfl | rfl <;> rfl) (gw_I 99 (by decide +kernel) rfl) (gw_I 140 (by decide +kernel) rfl) (gw_I 74 (by decide +kernel) rfl) (hσ (v0 + 16) (by omega)) ⟨Nat.le_of_ble_eq_true rfl, Nat.le_of_ble_eq_true rfl⟩ d_Hub_init_64 ?_
  refine g_dup F.chg d_Hub_init_67 rfl ?_
  refine g_callIL (M := LSen) F hO (rfl : List.length [3, 1004, 203, 220, 4, 1004, 1004, 1004, 6, 1090, 5, 1008, 5, 1008, 5, 1008] = 16) (by decide) (c_Sen_init l (v0 + 16) (by rw [insL_at (by decide)]; rfl) σ (fun v hv => hσ v (by omega))) ci_2_41 (Nat.le_of_ble_eq_true rfl) ⟨Nat.le_of_ble_eq_true rfl, Nat.le_of_ble_eq_true rfl⟩ ⟨Nat.le_of_ble_eq_true rfl, Nat.le_of_ble_eq_true rfl⟩ d_Hub_init_68 ?_
  refine g_eqL (L' := [3, 1004, 203, 220, 4, 1004, 1004, 1004, 6, 1090, 5, 1008, 5, 1008, 5, 1008, 5, 1008]) (k' := v0 + 18) (ck' := 17) (sk' := 232) (by decide +kernel) rfl rfl rfl ?_
  refine g_aastL (kz := v0 + 18) (L := [3, 1004, 203, 220, 4, 1004, 1004, 1004, 6, 1090, 5, 1008, 5, 1008, 5, 1008, 5, 1008]) (i := 3) (iv := 2) (iw := 16) F 3 2 8 4 8 2 200 204 21 ("SensorHub$Sensor", T_4, 18) rfl rfl (by decide) rfl (by decide) (by decide) rfl (by simp) (by decide) (by decide) rfl d_Hub_init_71 ?_
  refine g_eqL (L' := [3, 1004, 204, 220, 4, 1004, 1004, 1004, 6, 1090, 5, 1008, 5, 1008, 5, 1008, 5, 1008]) (k' := v0 + 18) (ck' := 17) (sk' := 232) (by decide +kernel) rfl rfl rfl ?_
  refine g_iinc F.chg (v := 1) (ls' := [(1, .int 4), (0, .ref (b + (v0 + 0)))]) d_Hub_init_72 0 rfl (by decide) (by decide) rfl ?_
  refine g_goto F.chg (tgt := 53) d_Hub_init_75 (by decide) ?_
  refine g_iload_n F.chg d_Hub_init_53 0 rfl ?_
  refine g_bipush F.chg (v := 8) d_Hub_init_54 (by decide) ?_
  refine g_pf (q := (8 : Int32) ≤ 4) (by decide) (g_icmp_ge F.chg (tgt := 78) d_Hub_init_56 (by decide) (fun _ => g_no) (fun _ => ?_))
  refine g_aload_n F.chg d_Hub_init_59 1 rfl ?_
  refine g_getR F.chg fs_2_17 (v := v0 + 0) (by show insL _ _ _ (v0 + 0) = _; rw [insL_at (by decide)]; rfl) rfl d_Hub_init_60 ?_
  refine g_iload_n F.chg d_Hub_init_63 0 rfl ?_
  refine g_newL F (rfl : List.length [3, 1004, 204, 220, 4, 1004, 1004, 1004, 6, 1090, 5, 1008, 5, 1008, 5, 1008, 5, 1008] = 18) ty_4 (rfl : classes[4]? = some ("SensorHub$Sensor", T_4, 18)) tyok_4 (fun j hj => by rcases (show j = 0 ∨ j = 1 ∨ j = 2 ∨ j = 3 ∨ j = 4 ∨ j = 5 ∨ j = 6 ∨ j = 7 ∨ j = 8 ∨ j = 9 ∨ j = 10 ∨ j = 11 ∨ j = 12 ∨ j = 13 ∨ j = 14 ∨ j = 15 ∨ j = 16 ∨ j = 17 by omega) with rfl | rfl | rfl | rfl | rfl | rfl | rfl | rfl | rfl | rfl | rfl | rfl | rfl | rfl | rfl | rfl | rfl | rfl <;> rfl) (gw_I 99 (by decide +kernel) rfl) (gw_I 140 (by decide +kernel) rfl) (gw_I 74 (by decide +kernel) rfl) (hσ (v0 + 18) (by omega)) ⟨Nat.le_of_ble_eq_true rfl, Nat.le_of_ble_eq_true rfl⟩ d_Hub_init_64 ?_
  refine g_dup F.chg d_Hub_init_67 rfl ?_
  refine g_callIL (M := LSen) F hO (rfl : List.length [3, 1004, 204, 220, 4, 1004, 1004, 1004, 6, 1090, 5, 1008, 5, 1008, 5, 1008, 5, 1008] = 18) (by decide) (c_Sen_init l (v0 + 18) (by rw [insL_at (by decide)]; rfl) σ (fun v hv => hσ v (by omega))) ci_2_41 (Nat.le_of_ble_eq_true rfl) ⟨Nat.le_of_ble_eq_true rfl, Nat.le_of_ble_eq_true rfl⟩ ⟨Nat.le_of_ble_eq_true rfl, Nat.le_of_ble_eq_true rfl⟩ d_Hub_init_68 ?_
  refine g_eqL (L' := [3, 1004, 204, 220, 4, 1004, 1004, 1004, 6, 1090, 5, 1008, 5, 1008, 5, 1008, 5, 1008, 5, 1008]) (k' := v0 + 20) (ck' := 19) (sk' := 258) (by decide +kernel) rfl rfl rfl ?_
  refine g_aastL (kz := v0 + 20) (L := [3, 1004, 204, 220, 4, 1004, 1004, 1004, 6, 1090, 5, 1008, 5, 1008, 5, 1008, 5, 1008, 5, 1008]) (i := 4) (iv := 2) (iw := 18) F 4 2 8 4 8 2 200 205 21 ("SensorHub$Sensor", T_4, 18) rfl rfl (by decide) rfl (by decide) (by decide) rfl (by simp) (by decide) (by decide) rfl d_Hub_init_71 ?_
  refine g_eqL (L' := [3, 1004, 205, 220, 4, 1004, 1004, 1004, 6, 1090, 5, 1008, 5, 1008, 5, 1008, 5, 1008, 5, 1008]) (k' := v0 + 20) (ck' := 19) (sk' := 258) (by decide +kernel) rfl rfl rfl ?_
  refine g_iinc F.chg (v := 1) (ls' := [(1, .int 5), (0, .ref (b + (v0 + 0)))]) d_Hub_init_72 0 rfl (by decide) (by decide) rfl ?_
  refine g_goto F.chg (tgt := 53) d_Hub_init_75 (by decide) ?_
  refine g_iload_n F.chg d_Hub_init_53 0 rfl ?_
  refine g_bipush F.chg (v := 8) d_Hub_init_54 (by decide) ?_
  refine g_pf (q := (8 : Int32) ≤ 5) (by decide) (g_icmp_ge F.chg (tgt := 78) d_Hub_init_56 (by decide) (fun _ => g_no) (fun _ => ?_))
  refine g_aload_n F.chg d_Hub_init_59 1 rfl ?_
  refine g_getR F.chg fs_2_17 (v := v0 + 0) (by show insL _ _ _ (v0 + 0) = _; rw [insL_at (by decide)]; rfl) rfl d_Hub_init_60 ?_
  refine g_iload_n F.chg d_Hub_init_63 0 rfl ?_
  refine g_newL F (rfl : List.length [3, 1004, 205, 220, 4, 1004, 1004, 1004, 6, 1090, 5, 1008, 5, 1008, 5, 1008, 5, 1008, 5, 1008] = 20) ty_4 (rfl : classes[4]? = some ("SensorHub$Sensor", T_4, 18)) tyok_4 (fun j hj => by rcases (show j = 0 ∨ j = 1 ∨ j = 2 ∨ j = 3 ∨ j = 4 ∨ j = 5 ∨ j = 6 ∨ j = 7 ∨ j = 8 ∨ j = 9 ∨ j = 10 ∨ j = 11 ∨ j = 12 ∨ j = 13 ∨ j = 14 ∨ j = 15 ∨ j = 16 ∨ j = 17 by omega) with rfl | rfl | rfl | rfl | rfl | rfl | rfl | rfl | rfl | rfl | rfl | rfl | rfl | rfl | rfl | rfl | rfl | rfl <;> rfl) (gw_I 99 (by decide +kernel) rfl) (gw_I 140 (by decide +kernel) rfl) (gw_I 74 (by decide +kernel) rfl) (hσ (v0 + 20) (by omega)) ⟨Nat.le_of_ble_eq_true rfl, Nat.le_of_ble_eq_true rfl⟩ d_Hub_init_64 ?_
  refine g_dup F.chg d_Hub_init_67 rfl ?_
  refine g_callIL (M := LSen) F hO (rfl : List.length [3, 1004, 205, 220, 4, 1004, 1004, 1004, 6, 1090, 5, 1008, 5, 1008, 5, 1008, 5, 1008, 5, 1008] = 20) (by decide) (c_Sen_init l (v0 + 20) (by rw [insL_at (by decide)]; rfl) σ (fun v hv => hσ v (by omega))) ci_2_41 (Nat.le_of_ble_eq_true rfl) ⟨Nat.le_of_ble_eq_true rfl, Nat.le_of_ble_eq_true rfl⟩ ⟨Nat.le_of_ble_eq_true rfl, Nat.le_of_ble_eq_true rfl⟩ d_Hub_init_68 ?_
  refine g_eqL (L' := [3, 1004, 205, 220, 4, 1004, 1004, 1004, 6, 1090, 5, 1008, 5, 1008, 5, 1008, 5, 1008, 5, 1008, 5, 1008]) (k' := v0 + 22) (ck' := 21) (sk' := 284) (by decide +kernel) rfl rfl rfl ?_
  refine g_aastL (kz := v0 + 22) (L := [3, 1004, 205, 220, 4, 1004, 1004, 1004, 6, 1090, 5, 1008, 5, 1008, 5, 1008, 5, 1008, 5, 1008, 5, 1008]) (i := 5) (iv := 2) (iw := 20) F 5 2 8 4 8 2 200 206 21 ("SensorHub$Sensor", T_4, 18) rfl rfl (by decide) rfl (by decide) (by decide) rfl (by simp) (by decide) (by decide) rfl d_Hub_init_71 ?_
  refine g_eqL (L' := [3, 1004, 206, 220, 4, 1004, 1004, 1004, 6, 1090, 5, 1008, 5, 1008, 5, 1008, 5, 1008, 5, 1008, 5, 1008]) (k' := v0 + 22) (ck' := 21) (sk' := 284) (by decide +kernel) rfl rfl rfl ?_
  refine g_iinc F.chg (v := 1) (ls' := [(1, .int 6), (0, .ref (b + (v0 + 0)))]) d_Hub_init_72 0 rfl (by decide) (by decide) rfl ?_
  refine g_goto F.chg (tgt := 53) d_Hub_init_75 (by decide) ?_
  refine g_iload_n F.chg d_Hub_init_53 0 rfl ?_
  refine g_bipush F.chg (v := 8) d_Hub_init_54 (by decide) ?_
  refine g_pf (q := (8 : Int32) ≤ 6) (by decide) (g_icmp_ge F.chg (tgt := 78) d_Hub_init_56 (by decide) (fun _ => g_no) (fun _ => ?_))
  refine g_aload_n F.chg d_Hub_init_59 1 rfl ?_
  refine g_getR F.chg fs_2_17 (v := v0 + 0) (by show insL _ _ _ (v0 + 0) = _; rw [insL_at (by decide)]; rfl) rfl d_Hub_init_60 ?_
  refine g_iload_n F.chg d_Hub_init_63 0 rfl ?_
  refine g_newL F (rfl : List.length [3, 1004, 206, 220, 4, 1004, 1004, 1004, 6, 1090, 5, 1008, 5, 1008, 5, 1008, 5, 1008, 5, 1008, 5, 1008] = 22) ty_4 (rfl : classes[4]? = some ("SensorHub$Sensor", T_4, 18)) tyok_4 (fun j hj => by rcases (show j = 0 ∨ j = 1 ∨ j = 2 ∨ j = 3 ∨ j = 4 ∨ j = 5 ∨ j = 6 ∨ j = 7 ∨ j = 8 ∨ j = 9 ∨ j = 10 ∨ j = 11 ∨ j = 12 ∨ j = 13 ∨ j = 14 ∨ j = 15 ∨ j = 16 ∨ j = 17 by omega) with rfl | rfl | rfl | rfl | rfl | rfl | rfl | rfl | rfl | rfl | rfl | rfl | rfl | rfl | rfl | rfl | rfl | rfl <;> rfl) (gw_I 99 (by decide +kernel) rfl) (gw_I 140 (by decide +kernel) rfl) (gw_I 74 (by decide +kernel) rfl) (hσ (v0 + 22) (by omega)) ⟨Nat.le_of_ble_eq_true rfl, Nat.le_of_ble_eq_true rfl⟩ d_Hub_init_64 ?_
  refine g_dup F.chg d_Hub_init_67 rfl ?_
  refine g_callIL (M := LSen) F hO (rfl : List.length [3, 1004, 206, 220, 4, 1004, 1004, 1004, 6, 1090, 5, 1008, 5, 1008, 5, 1008, 5, 1008, 5, 1008, 5, 1008] = 22) (by decide) (c_Sen_init l (v0 + 22) (by rw [insL_at (by decide)]; rfl) σ (fun v hv => hσ v (by omega))) ci_2_41 (Nat.le_of_ble_eq_true rfl) ⟨Nat.le_of_ble_eq_true rfl, Nat.le_of_ble_eq_true rfl⟩ ⟨Nat.le_of_ble_eq_true rfl, Nat.le_of_ble_eq_true rfl⟩ d_Hub_init_68 ?_
  refine g_eqL (L' := [3, 1004, 206, 220, 4, 1004, 1004, 1004, 6, 1090, 5, 1008, 5, 1008, 5, 1008, 5, 1008, 5, 1008, 5, 1008, 5, 1008]) (k' := v0 + 24) (ck' := 23) (sk' := 310) (by decide +kernel) rfl rfl rfl ?_
  refine g_aastL (kz := v0 + 24) (L := [3, 1004, 206, 220, 4, 1004, 1004, 1004, 6, 1090, 5, 1008, 5, 1008, 5, 1008, 5, 1008, 5, 1008, 5, 1008, 5, 1008]) (i := 6) (iv := 2) (iw := 22) F 6 2 8 4 8 2 200 207 21 ("SensorHub$Sensor", T_4, 18) rfl rfl (by decide) rfl (by decide) (by decide) rfl (by simp) (by decide) (by decide) rfl d_Hub_init_71 ?_
  refine g_eqL (L' := [3, 1004, 207, 220, 4, 1004, 1004, 1004, 6, 1090, 5, 1008, 5, 1008, 5, 1008, 5, 1008, 5, 1008, 5, 1008, 5, 1008]) (k' := v0 + 24) (ck' := 23) (sk' := 310) (by decide +kernel) rfl rfl rfl ?_
  refine g_iinc F.chg (v := 1) (ls' := [(1, .int 7), (0, .ref (b + (v0 + 0)))]) d_Hub_init_72 0 rfl (by decide) (by decide) rfl ?_
  refine g_goto F.chg (tgt := 53) d_Hub_init_75 (by decide) ?_
  refine g_iload_n F.chg d_Hub_init_53 0 rfl ?_
  refine g_bipush F.chg (v := 8) d_Hub_init_54 (by decide) ?_
  refine g_pf (q := (8 : Int32) ≤ 7) (by decide) (g_icmp_ge F.chg (tgt := 78) d_Hub_init_56 (by decide) (fun _ => g_no) (fun _ => ?_))
  refine g_aload_n F.chg d_Hub_init_59 1 rfl ?_
  refine g_getR F.chg fs_2_17 (v := v0 + 0) (by show insL _ _ _ (v0 + 0) = _; rw [insL_at (by decide)]; rfl) rfl d_Hub_init_60 ?_
  refine g_iload_n F.chg d_Hub_init_63 0 rfl ?_
  refine g_newL F (rfl : List.length [3, 1004, 207, 220, 4, 1004, 1004, 1004, 6, 1090, 5, 1008, 5, 1008, 5, 1008, 5, 1008, 5, 1008, 5, 1008, 5, 1008] = 24) ty_4 (rfl : classes[4]? = some ("SensorHub$Sensor", T_4, 18)) tyok_4 (fun j hj => by rcases (show j = 0 ∨ j = 1 ∨ j = 2 ∨ j = 3 ∨ j = 4 ∨ j = 5 ∨ j = 6 ∨ j = 7 ∨ j = 8 ∨ j = 9 ∨ j = 10 ∨ j = 11 ∨ j = 12 ∨ j = 13 ∨ j = 14 ∨ j = 15 ∨ j = 16 ∨ j = 17 by omega) with rfl | rfl | rfl | rfl | rfl | rfl | rfl | rfl | rfl | rfl | rfl | rfl | rfl | rfl | rfl | rfl | rfl | rfl <;> rfl) (gw_I 99 (by decide +kernel) rfl) (gw_I 140 (by decide +kernel) rfl) (gw_I 74 (by decide +kernel) rfl) (hσ (v0 + 24) (by omega)) ⟨Nat.le_of_ble_eq_true rfl, Nat.le_of_ble_eq_true rfl⟩ d_Hub_init_64 ?_
  refine g_dup F.chg d_Hub_init_67 rfl ?_
  refine g_callIL (M := LSen) F hO (rfl : List.length [3, 1004, 207, 220, 4, 1004, 1004, 1004, 6, 1090, 5, 1008, 5, 1008, 5, 1008, 5, 1008, 5, 1008, 5, 1008, 5, 1008] = 24) (by decide) (c_Sen_init l (v0 + 24) (by rw [insL_at (by decide)]; rfl) σ (fun v hv => hσ v (by omega))) ci_2_41 (Nat.le_of_ble_eq_true rfl) ⟨Nat.le_of_ble_eq_true rfl, Nat.le_of_ble_eq_true rfl⟩ ⟨Nat.le_of_ble_eq_true rfl, Nat.le_of_ble_eq_true rfl⟩ d_Hub_init_68 ?_
  refine g_eqL (L' := [3, 1004, 207, 220, 4, 1004, 1004, 1004, 6, 1090, 5, 1008, 5, 1008, 5, 1008, 5, 1008, 5, 1008, 5, 1008, 5, 1008, 5, 1008]) (k' := v0 + 26) (ck' := 25) (sk' := 336) (by decide +kernel) rfl rfl rfl ?_
  refine g_aastL (kz := v0 + 26) (L := [3, 1004, 207, 220, 4, 1004, 1004, 1004, 6, 1090, 5, 1008, 5, 1008, 5, 1008, 5, 1008, 5, 1008, 5, 1008, 5, 1008, 5, 1008]) (i := 7) (iv := 2) (iw := 24) F 7 2 8 4 8 2 200 21 21 ("SensorHub$Sensor", T_4, 18) rfl rfl (by decide) rfl (by decide) (by decide) rfl (by simp) (by decide) (by decide) rfl d_Hub_init_71 ?_
  refine g_eqL (L' := [3, 1004, 21, 220, 4, 1004, 1004, 1004, 6, 1090, 5, 1008, 5, 1008, 5, 1008, 5, 1008, 5, 1008, 5, 1008, 5, 1008, 5, 1008]) (k' := v0 + 26) (ck' := 25) (sk' := 336) (by decide +kernel) rfl rfl rfl ?_
  refine g_iinc F.chg (v := 1) (ls' := [(1, .int 8), (0, .ref (b + (v0 + 0)))]) d_Hub_init_72 0 rfl (by decide) (by decide) rfl ?_
  refine g_goto F.chg (tgt := 53) d_Hub_init_75 (by decide) ?_
  refine g_iload_n F.chg d_Hub_init_53 0 rfl ?_
  refine g_bipush F.chg (v := 8) d_Hub_init_54 (by decide) ?_
  refine g_pt (q := (8 : Int32) ≤ 8) (by decide) (g_icmp_ge F.chg (tgt := 78) d_Hub_init_56 (by decide) (fun _ => ?_) (fun _ => g_no))
  refine g_iconst F.chg (v := 0) d_Hub_init_78 (by decide) ?_
  refine g_istore_n F.chg (ls' := [(1, .int 0), (0, .ref (b + (v0 + 0)))]) d_Hub_init_79 (by decide) rfl ?_
  refine g_iload_n F.chg d_Hub_init_80 0 rfl ?_
  refine g_bipush F.chg (v := 8) d_Hub_init_81 (by decide) ?_
  refine g_pf (q := (8 : Int32) ≤ 0) (by decide) (g_icmp_ge F.chg (tgt := 105) d_Hub_init_83 (by decide) (fun _ => g_no) (fun _ => ?_))
  refine g_aload_n F.chg d_Hub_init_86 1 rfl ?_
  refine g_getR F.chg fs_2_23 (v := v0 + 0) (by show insL _ _ _ (v0 + 0) = _; rw [insL_at (by decide)]; rfl) rfl d_Hub_init_87 ?_
  refine g_iload_n F.chg d_Hub_init_90 0 rfl ?_
  refine g_newL F (rfl : List.length [3, 1004, 21, 220, 4, 1004, 1004, 1004, 6, 1090, 5, 1008, 5, 1008, 5, 1008, 5, 1008, 5, 1008, 5, 1008, 5, 1008, 5, 1008] = 26) ty_0 (rfl : classes[0]? = some ("SensorHub$Client", T_0, 11)) tyok_0 (fun j hj => by rcases (show j = 0 ∨ j = 1 ∨ j = 2 ∨ j = 3 ∨ j = 4 ∨ j = 5 ∨ j = 6 ∨ j = 7 ∨ j = 8 ∨ j = 9 ∨ j = 10 by omega) with rfl | rfl | rfl | rfl | rfl | rfl | rfl | rfl | rfl | rfl | rfl <;> rfl) (gw_I 101 (by decide +kernel) rfl) (gw_I 221 (by decide +kernel) rfl) (gw_I 75 (by decide +kernel) rfl) (hσ (v0 + 26) (by omega)) ⟨Nat.le_of_ble_eq_true rfl, Nat.le_of_ble_eq_true rfl⟩ d_Hub_init_91 ?_
  refine g_dup F.chg d_Hub_init_94 rfl ?_
  refine g_callIL (M := LCli) F hO (rfl : List.length [3, 1004, 21, 220, 4, 1004, 1004, 1004, 6, 1090, 5, 1008, 5, 1008, 5, 1008, 5, 1008, 5, 1008, 5, 1008, 5, 1008, 5, 1008] = 26) (by decide) (c_Cli_init l (v0 + 26) (by rw [insL_at (by decide)]; rfl) σ (fun v hv => hσ v (by omega))) ci_2_42 (Nat.le_of_ble_eq_true rfl) ⟨Nat.le_of_ble_eq_true rfl, Nat.le_of_ble_eq_true rfl⟩ ⟨Nat.le_of_ble_eq_true rfl, Nat.le_of_ble_eq_true rfl⟩ d_Hub_init_95 ?_
  refine g_eqL (L' := [3, 1004, 21, 220, 4, 1004, 1004, 1004, 6, 1090, 5, 1008, 5, 1008, 5, 1008, 5, 1008, 5, 1008, 5, 1008, 5, 1008, 5, 1008, 1, 1018]) (k' := v0 + 28) (ck' := 27) (sk' := 365) (by decide +kernel) rfl rfl rfl ?_
  refine g_aastL (kz := v0 + 28) (L := [3, 1004, 21, 220, 4, 1004, 1004, 1004, 6, 1090, 5, 1008, 5, 1008, 5, 1008, 5, 1008, 5, 1008, 5, 1008, 5, 1008, 5, 1008, 1, 1018]) (i := 0) (iv := 3) (iw := 26) F 0 3 8 0 23 2 220 221 22 ("SensorHub$Client", T_0, 11) rfl rfl (by decide) rfl (by decide) (by decide) rfl (by simp) (by decide) (by decide) rfl d_Hub_init_98 ?_
  refine g_eqL (L' := [3, 1004, 21, 221, 4, 1004, 1004, 1004, 6, 1090, 5, 1008, 5, 1008, 5, 1008, 5, 1008, 5, 1008, 5, 1008, 5, 1008, 5, 1008, 1, 1018]) (k' := v0 + 28) (ck' := 27) (sk' := 365) (by decide +kernel) rfl rfl rfl ?_
  refine g_iinc F.chg (v := 1) (ls' := [(1, .int 1), (0, .ref (b + (v0 + 0)))]) d_Hub_init_99 0 rfl (by decide) (by decide) rfl ?_
  refine g_goto F.chg (tgt := 80) d_Hub_init_102 (by decide) ?_
  refine g_iload_n F.chg d_Hub_init_80 0 rfl ?_
  refine g_bipush F.chg (v := 8) d_Hub_init_81 (by decide) ?_
  refine g_pf (q := (8 : Int32) ≤ 1) (by decide) (g_icmp_ge F.chg (tgt := 105) d_Hub_init_83 (by decide) (fun _ => g_no) (fun _ => ?_))
  refine g_aload_n F.chg d_Hub_init_86 1 rfl ?_
  refine g_getR F.chg fs_2_23 (v := v0 + 0) (by show insL _ _ _ (v0 + 0) = _; rw [insL_at (by decide)]; rfl) rfl d_Hub_init_87 ?_
  refine g_iload_n F.chg d_Hub_init_90 0 rfl ?_
  refine g_newL F (rfl : List.length [3, 1004, 21, 221, 4, 1004, 1004, 1004, 6, 1090, 5, 1008, 5, 1008, 5, 1008, 5, 1008, 5, 1008, 5, 1008, 5, 1008, 5, 1008, 1, 1018] = 28) ty_0 (rfl : classes[0]? = some ("SensorHub$Client", T_0, 11)) tyok_0 (fun j hj => by rcases (show j = 0 ∨ j = 1 ∨ j = 2 ∨ j = 3 ∨ j = 4 ∨ j = 5 ∨ j = 6 ∨ j = 7 ∨ j = 8 ∨ j = 9 ∨ j = 10 by omega) with rfl | rfl | rfl | rfl | rfl | rfl | rfl | rfl | rfl | rfl | rfl <;> rfl) (gw_I 101 (by decide +kernel) rfl) (gw_I 221 (by decide +kernel) rfl) (gw_I 75 (by decide +kernel) rfl) (hσ (v0 + 28) (by omega)) ⟨Nat.le_of_ble_eq_true rfl, Nat.le_of_ble_eq_true rfl⟩ d_Hub_init_91 ?_
  refine g_dup F.chg d_Hub_init_94 rfl ?_
  refine g_callIL (M := LCli) F hO (rfl : List.length [3, 1004, 21, 221, 4, 1004, 1004, 1004, 6, 1090, 5, 1008, 5, 1008, 5, 1008, 5, 1008, 5, 1008, 5, 1008, 5, 1008, 5, 1008, 1, 1018] = 28) (by decide) (c_Cli_init l (v0 + 28) (by rw [insL_at (by decide)]; rfl) σ (fun v hv => hσ v (by omega))) ci_2_42 (Nat.le_of_ble_eq_true rfl) ⟨Nat.le_of_ble_eq_true rfl, Nat.le_of_ble_eq_true rfl⟩ ⟨Nat.le_of_ble_eq_true rfl, Nat.le_of_ble_eq_true rfl⟩ d_Hub_init_95 ?_
  refine g_eqL (L' := [3, 1004, 21, 221, 4, 1004, 1004, 1004, 6, 1090, 5, 1008, 5, 1008, 5, 1008, 5, 1008, 5, 1008, 5, 1008, 5, 1008, 5, 1008, 1, 1018, 1, 1018]) (k' := v0 + 30) (ck' := 29) (sk' := 394) (by decide +kernel) rfl rfl rfl ?_
  refine g_aastL (kz := v0 + 30) (L := [3, 1004, 21, 221, 4, 1004, 1004, 1004, 6, 1090, 5, 1008, 5, 1008, 5, 1008, 5, 1008, 5, 1008, 5, 1008, 5, 1008, 5, 1008, 1, 1018, 1, 1018]) (i := 1) (iv := 3) (iw := 28) F 1 3 8 0 23 2 220 222 22 ("SensorHub$Client", T_0, 11) rfl rfl (by decide) rfl (by decide) (by decide) rfl (by simp) (by decide) (by decide) rfl d_Hub_init_98 ?_
  refine g_eqL (L' := [3, 1004, 21, 222, 4, 1004, 1004, 1004, 6, 1090, 5, 1008, 5, 1008, 5, 1008, 5, 1008, 5, 1008, 5, 1008, 5, 1008, 5, 1008, 1, 1018, 1, 1018]) (k' := v0 + 30) (ck' := 29) (sk' := 394) (by decide +kernel) rfl rfl rfl ?_
  refine g_iinc F.chg (v := 1) (ls' := [(1, .int 2), (0, .ref (b + (v0 + 0)))]) d_Hub_init_99 0 rfl (by decide) (by decide) rfl ?_
  refine g_goto F.chg (tgt := 80) d_Hub_init_102 (by decide) ?_
  refine g_iload_n F.chg d_Hub_init_80 0 rfl ?_
  refine g_bipush F.chg (v := 8) d_Hub_init_81 (by decide) ?_
  refine g_pf (q := (8 : Int32) ≤ 2) (by decide) (g_icmp_ge F.chg (tgt := 105) d_Hub_init_83 (by decide) (fun _ => g_no) (fun _ => ?_))
  refine g_aload_n F.chg d_Hub_init_86 1 rfl ?_
  refine g_getR F.chg fs_2_23 (v := v0 + 0) (by show insL _ _ _ (v0 + 0) = _; rw [insL_at (by decide)]; rfl) rfl d_Hub_init_87 ?_
  refine g_iload_n F.chg d_Hub_init_90 0 rfl ?_
  refine g_newL F (rfl : List.length [3, 1004, 21, 222, 4, 1004, 1004, 1004, 6, 1090, 5, 1008, 5, 1008, 5, 1008, 5, 1008, 5, 1008, 5, 1008, 5, 1008, 5, 1008, 1, 1018, 1, 1018] = 30) ty_0 (rfl : classes[0]? = some ("SensorHub$Client", T_0, 11)) tyok_0 (fun j hj => by rcases (show j = 0 ∨ j = 1 ∨ j = 2 ∨ j = 3 ∨ j = 4 ∨ j = 5 ∨ j = 6 ∨ j = 7 ∨ j = 8 ∨ j = 9 ∨ j = 10 by omega) with rfl | rfl | rfl | rfl | rfl | rfl | rfl | rfl | rfl | rfl | rfl <;> rfl) (gw_I 101 (by decide +kernel) rfl) (gw_I 221 (by decide +kernel) rfl) (gw_I 75 (by decide +kernel) rfl) (hσ (v0 + 30) (by omega)) ⟨Nat.le_of_ble_eq_true rfl, Nat.le_of_ble_eq_true rfl⟩ d_Hub_init_91 ?_
  refine g_dup F.chg d_Hub_init_94 rfl ?_
  refine g_callIL (M := LCli) F hO (rfl : List.length [3, 1004, 21, 222, 4, 1004, 1004, 1004, 6, 1090, 5, 1008, 5, 1008, 5, 1008, 5, 1008, 5, 1008, 5, 1008, 5, 1008, 5, 1008, 1, 1018, 1, 1018] = 30) (by decide) (c_Cli_init l (v0 + 30) (by rw [insL_at (by decide)]; rfl) σ (fun v hv => hσ v (by omega))) ci_2_42 (Nat.le_of_ble_eq_true rfl) ⟨Nat.le_of_ble_eq_true rfl, Nat.le_of_ble_eq_true rfl⟩ ⟨Nat.le_of_ble_eq_true rfl, Nat.le_of_ble_eq_true rfl⟩ d_Hub_init_95 ?_
  refine g_eqL (L' := [3, 1004, 21, 222, 4, 1004, 1004, 1004, 6, 1090, 5, 1008, 5, 1008, 5, 1008, 5, 1008, 5, 1008, 5, 1008, 5, 1008, 5, 1008, 1, 1018, 1, 1018, 1, 1018]) (k' := v0 + 32) (ck' := 31) (sk' := 423) (by decide +kernel) rfl rfl rfl ?_
  refine g_aastL (kz := v0 + 32) (L := [3, 1004, 21, 222, 4, 1004, 1004, 1004, 6, 1090, 5, 1008, 5, 1008, 5, 1008, 5, 1008, 5, 1008, 5, 1008, 5, 1008, 5, 1008, 1, 1018, 1, 1018, 1, 1018]) (i := 2) (iv := 3) (iw := 30) F 2 3 8 0 23 2 220 223 22 ("SensorHub$Client", T_0, 11) rfl rfl (by decide) rfl (by decide) (by decide) rfl (by simp) (by decide) (by decide) rfl d_Hub_init_98 ?_
  refine g_eqL (L' := [3, 1004, 21, 223, 4, 1004, 1004, 1004, 6, 1090, 5, 1008, 5, 1008, 5, 1008, 5, 1008, 5, 1008, 5, 1008, 5, 1008, 5, 1008, 1, 1018, 1, 1018, 1, 1018]) (k' := v0 + 32) (ck' := 31) (sk' := 423) (by decide +kernel) rfl rfl rfl ?_
  refine g_iinc F.chg (v := 1) (ls' := [(1, .int 3), (0, .ref (b + (v0 + 0)))]) d_Hub_init_99 0 rfl (by decide) (by decide) rfl ?_
  refine g_goto F.chg (tgt := 80) d_Hub_init_102 (by decide) ?_
  refine g_iload_n F.chg d_Hub_init_80 0 rfl ?_
  refine g_bipush F.chg (v := 8) d_Hub_init_81 (by decide) ?_
  refine g_pf (q := (8 : Int32) ≤ 3) (by decide) (g_icmp_ge F.chg (tgt := 105) d_Hub_init_83 (by decide) (fun _ => g_no) (fun _ => ?_))
  refine g_aload_n F.chg d_Hub_init_86 1 rfl ?_
  refine g_getR F.chg fs_2_23 (v := v0 + 0) (by show insL _ _ _ (v0 + 0) = _; rw [insL_at (by decide)]; rfl) rfl d_Hub_init_87 ?_
  refine g_iload_n F.chg d_Hub_init_90 0 rfl ?_
  refine g_newL F (rfl : List.length [3, 1004, 21, 223, 4, 1004, 1004, 1004, 6, 1090, 5, 1008, 5, 1008, 5, 1008, 5, 1008, 5, 1008, 5, 1008, 5, 1008, 5, 1008, 1, 1018, 1, 1018, 1, 1018] = 32) ty_0 (rfl : classes[0]? = some ("SensorHub$Client", T_0, 11)) tyok_0 (fun j hj => by rcases (show j = 0 ∨ j = 1 ∨ j = 2 ∨ j = 3 ∨ j = 4 ∨ j = 5 ∨ j = 6 ∨ j = 7 ∨ j = 8 ∨ j = 9 ∨ j = 10 by omega) with rfl | rfl | rfl | rfl | rfl | rfl | rfl | rfl | rfl | rfl | rfl <;> rfl) (gw_I 101 (by decide +kernel) rfl) (gw_I 221 (by decide +kernel) rfl) (gw_I 75 (by decide +kernel) rfl) (hσ (v0 + 32) (by omega)) ⟨Nat.le_of_ble_eq_true rfl, Nat.le_of_ble_eq_true rfl⟩ d_Hub_init_91 ?_
  refine g_dup F.chg d_Hub_init_94 rfl ?_
  refine g_callIL (M := LCli) F hO (rfl : List.length [3, 1004, 21, 223, 4, 1004, 1004, 1004, 6, 1090, 5, 1008, 5, 1008, 5, 1008, 5, 1008, 5, 1008, 5, 1008, 5, 1008, 5, 1008, 1, 1018, 1, 1018, 1, 1018] = 32) (by decide) (c_Cli_init l (v0 + 32) (by rw [insL_at (by decide)]; rfl) σ (fun v hv => hσ v (by omega))) ci_2_42 (Nat.le_of_ble_eq_true rfl) ⟨Nat.le_of_ble_eq_true rfl, Nat.le_of_ble_eq_true rfl⟩ ⟨Nat.le_of_ble_eq_true rfl, Nat.le_of_ble_eq_true rfl⟩ d_Hub_init_95 ?_
  refine g_eqL (L' := [3, 1004, 21, 223, 4, 1004, 1004, 1004, 6, 1090, 5, 1008, 5, 1008, 5, 1008, 5, 1008, 5, 1008, 5, 1008, 5, 1008, 5, 1008, 1, 1018, 1, 1018, 1, 1018, 1, 1018]) (k' := v0 + 34) (ck' := 33) (sk' := 452) (by decide +kernel) rfl rfl rfl ?_
  refine g_aastL (kz := v0 + 34) (L := [3, 1004, 21, 223, 4, 1004, 1004, 1004, 6, 1090, 5, 1008, 5, 1008, 5, 1008, 5, 1008, 5, 1008, 5, 1008, 5, 1008, 5, 1008, 1, 1018, 1, 1018, 1, 1018, 1, 1018]) (i := 3) (iv := 3) (iw := 32) F 3 3 8 0 23 2 220 224 22 ("SensorHub$Client", T_0, 11) rfl rfl (by decide) rfl (by decide) (by decide) rfl (by simp) (by decide) (by decide) rfl d_Hub_init_98 ?_
  refine g_eqL (L' := [3, 1004, 21, 224, 4, 1004, 1004, 1004, 6, 1090, 5, 1008, 5, 1008, 5, 1008, 5, 1008, 5, 1008, 5, 1008, 5, 1008, 5, 1008, 1, 1018, 1, 1018, 1, 1018, 1, 1018]) (k' := v0 + 34) (ck' := 33) (sk' := 452) (by decide +kernel) rfl rfl rfl ?_
  refine g_iinc F.chg (v := 1) (ls' := [(1, .int 4), (0, .ref (b + (v0 + 0)))]) d_Hub_init_99 0 rfl (by decide) (by decide) rfl ?_
  refine g_goto F.chg (tgt := 80) d_Hub_init_102 (by decide) ?_
  refine g_iload_n F.chg d_Hub_init_80 0 rfl ?_
  refine g_bipush F.chg (v := 8) d_Hub_init_81 (by decide) ?_
  refine g_pf (q := (8 : Int32) ≤ 4) (by decide) (g_icmp_ge F.chg (tgt := 105) d_Hub_init_83 (by decide) (fun _ => g_no) (fun _ => ?_))
  refine g_aload_n F.chg d_Hub_init_86 1 rfl ?_
  refine g_getR F.chg fs_2_23 (v := v0 + 0) (by show insL _ _ _ (v0 + 0) = _; rw [insL_at (by decide)]; rfl) rfl d_Hub_init_87 ?_
  refine g_iload_n F.chg d_Hub_init_90 0 rfl ?_
  refine g_newL F (rfl : List.length [3, 1004, 21, 224, 4, 1004, 1004, 1004, 6, 1090, 5, 1008, 5, 1008, 5, 1008, 5, 1008, 5, 1008, 5, 1008, 5, 1008, 5, 1008, 1, 1018, 1, 1018, 1, 1018, 1, 1018] = 34) ty_0 (rfl : classes[0]? = some ("SensorHub$Client", T_0, 11)) tyok_0 (fun j hj => by rcases (show j = 0 ∨ j = 1 ∨ j = 2 ∨ j = 3 ∨ j = 4 ∨ j = 5 ∨ j = 6 ∨ j = 7 ∨ j = 8 ∨ j = 9 ∨ j = 10 by omega) with rfl | rfl | rfl | rfl | rfl | rfl | rfl | rfl | rfl | rfl | rfl <;> rfl) (gw_I 101 (by decide +kernel) rfl) (gw_I 221 (by decide +kernel) rfl) (gw_I 75 (by decide +kernel) rfl) (hσ (v0 + 34) (by omega)) ⟨Nat.le_of_ble_eq_true rfl, Nat.le_of_ble_eq_true rfl⟩ d_Hub_init_91 ?_
  refine g_dup F.chg d_Hub_init_94 rfl ?_
  refine g_callIL (M := LCli) F hO (rfl : List.length [3, 1004, 21, 224, 4, 1004, 1004, 1004, 6, 1090, 5, 1008, 5, 1008, 5, 1008, 5, 1008, 5, 1008, 5, 1008, 5, 1008, 5, 1008, 1, 1018, 1, 1018, 1, 1018, 1, 1018] = 34) (by decide) (c_Cli_init l (v0 + 34) (by rw [insL_at (by decide)]; rfl) σ (fun v hv => hσ v (by omega))) ci_2_42 (Nat.le_of_ble_eq_true rfl) ⟨Nat.le_of_ble_eq_true rfl, Nat.le_of_ble_eq_true rfl⟩ ⟨Nat.le_of_ble_eq_true rfl, Nat.le_of_ble_eq_true rfl⟩ d_Hub_init_95 ?_
  refine g_eqL (L' := [3, 1004, 21, 224, 4, 1004, 1004, 1004, 6, 1090, 5, 1008, 5, 1008, 5, 1008, 5, 1008, 5, 1008, 5, 1008, 5, 1008, 5, 1008, 1, 1018, 1, 1018, 1, 1018, 1, 1018, 1, 1018]) (k' := v0 + 36) (ck' := 35) (sk' := 481) (by decide +kernel) rfl rfl rfl ?_
  refine g_aastL (kz := v0 + 36) (L := [3, 1004, 21, 224, 4, 1004, 1004, 1004, 6, 1090, 5, 1008, 5, 1008, 5, 1008, 5, 1008, 5, 1008, 5, 1008, 5, 1008, 5, 1008, 1, 1018, 1, 1018, 1, 1018, 1, 1018, 1, 1018]) (i := 4) (iv := 3) (iw := 34) F 4 3 8 0 23 2 220 225 22 ("SensorHub$Client", T_0, 11) rfl rfl (by decide) rfl (by decide) (by decide) rfl (by simp) (by decide) (by decide) rfl d_Hub_init_98 ?_
  refine g_eqL (L' := [3, 1004, 21, 225, 4, 1004, 1004, 1004, 6, 1090, 5, 1008, 5, 1008, 5, 1008, 5, 1008, 5, 1008, 5, 1008, 5, 1008, 5, 1008, 1, 1018, 1, 1018, 1, 1018, 1, 1018, 1, 1018]) (k' := v0 + 36) (ck' := 35) (sk' := 481) (by decide +kernel) rfl rfl rfl ?_
  refine g_iinc F.chg (v := 1) (ls' := [(1, .int 5), (0, .ref (b + (v0 + 0)))]) d_Hub_init_99 0 rfl (by decide) (by decide) rfl ?_
  refine g_goto F.chg (tgt := 80) d_Hub_init_102 (by decide) ?_
  refine g_iload_n F.chg d_Hub_init_80 0 rfl ?_
  refine g_bipush F.chg (v := 8) d_Hub_init_81 (by decide) ?_
  refine g_pf (q := (8 : Int32) ≤ 5) (by decide) (g_icmp_ge F.chg (tgt := 105) d_Hub_init_83 (by decide) (fun _ => g_no) (fun _ => ?_))
  refine g_aload_n F.chg d_Hub_init_86 1 rfl ?_
  refine g_getR F.chg fs_2_23 (v := v0 + 0) (by show insL _ _ _ (v0 + 0) = _; rw [insL_at (by decide)]; rfl) rfl d_Hub_init_87 ?_
  refine g_iload_n F.chg d_Hub_init_90 0 rfl ?_
  refine g_newL F (rfl : List.length [3, 1004, 21, 225, 4, 1004, 1004, 1004, 6, 1090, 5, 1008, 5, 1008, 5, 1008, 5, 1008, 5, 1008, 5, 1008, 5, 1008, 5, 1008, 1, 1018, 1, 1018, 1, 1018, 1, 1018, 1, 1018] = 36) ty_0 (rfl : classes[0]? = some ("SensorHub$Client", T_0, 11)) tyok_0 (fun j hj => by rcases (show j = 0 ∨ j = 1 ∨ j = 2 ∨ j = 3 ∨ j = 4 ∨ j = 5 ∨ j = 6 ∨ j = 7 ∨ j = 8 ∨ j = 9 ∨ j = 10 by omega) with rfl | rfl | rfl | rfl | rfl | rfl | rfl | rfl | rfl | rfl | rfl <;> rfl) (gw_I 101 (by decide +kernel) rfl) (gw_I 221 (by decide +kernel) rfl) (gw_I 75 (by decide +kernel) rfl) (hσ (v0 + 36) (by omega)) ⟨Nat.le_of_ble_eq_true rfl, Nat.le_of_ble_eq_true rfl⟩ d_Hub_init_91 ?_
  refine g_dup F.chg d_Hub_init_94 rfl ?_
  refine g_callIL (M := LCli) F hO (rfl : List.length [3, 1004, 21, 225, 4, 1004, 1004, 1004, 6, 1090, 5, 1008, 5, 1008, 5, 1008, 5, 1008, 5, 1008, 5, 1008, 5, 1008, 5, 1008, 1, 1018, 1, 1018, 1, 1018, 1, 1018, 1, 1018] = 36) (by decide) (c_Cli_init l (v0 + 36) (by rw [insL_at (by decide)]; rfl) σ (fun v hv => hσ v (by omega))) ci_2_42 (Nat.le_of_ble_eq_true rfl) ⟨Nat.le_of_ble_eq_true rfl, Nat.le_of_ble_eq_true rfl⟩ ⟨Nat.le_of_ble_eq_true rfl, Nat.le_of_ble_eq_true rfl⟩ d_Hub_init_95 ?_
  refine g_eqL (L' := [3, 1004, 21, 225, 4, 1004, 1004, 1004, 6, 1090, 5, 1008, 5, 1008, 5, 1008, 5, 1008, 5, 1008, 5, 1008, 5, 1008, 5, 1008, 1, 1018, 1, 1018, 1, 1018, 1, 1018, 1, 1018, 1, 1018]) (k' := v0 + 38) (ck' := 37) (sk' := 510) (by decide +kernel) rfl rfl rfl ?_
  refine g_aastL (kz := v0 + 38) (L := [3, 1004, 21, 225, 4, 1004, 1004, 1004, 6, 1090, 5, 1008, 5, 1008, 5, 1008, 5, 1008, 5, 1008, 5, 1008, 5, 1008, 5, 1008, 1, 1018, 1, 1018, 1, 1018, 1, 1018, 1, 1018, 1, 1018]) (i := 5) (iv := 3) (iw := 36) F 5 3 8 0 23 2 220 226 22 ("SensorHub$Client", T_0, 11) rfl rfl (by decide) rfl (by decide) (by decide) rfl (by simp) (by decide) (by decide) rfl d_Hub_init_98 ?_
  refine g_eqL (L' := [3, 1004, 21, 226, 4, 1004, 1004, 1004, 6, 1090, 5, 1008, 5, 1008, 5, 1008, 5, 1008, 5, 1008, 5, 1008, 5, 1008, 5, 1008, 1, 1018, 1, 1018, 1, 1018, 1, 1018, 1, 1018, 1, 1018]) (k' := v0 + 38) (ck' := 37) (sk' := 510) (by decide +kernel) rfl rfl rfl ?_
  refine g_iinc F.chg (v := 1) (ls' := [(1, .int 6), (0, .ref (b + (v0 + 0)))]) d_Hub_init_99 0 rfl (by decide) (by decide) rfl ?_
  refine g_goto F.chg (tgt := 80) d_Hub_init_102 (by decide) ?_
  refine g_iload_n F.chg d_Hub_init_80 0 rfl ?_
  refine g_bipush F.chg (v := 8) d_Hub_init_81 (by decide) ?_
  refine g_pf (q := (8 : Int32) ≤ 6) (by decide) (g_icmp_ge F.chg (tgt := 105) d_Hub_init_83 (by decide) (fun _ => g_no) (fun _ => ?_))
  refine g_aload_n F.chg d_Hub_init_86 1 rfl ?_
  refine g_getR F.chg fs_2_23 (v := v0 + 0) (by show insL _ _ _ (v0 + 0) = _; rw [insL_at (by decide)]; rfl) rfl d_Hub_init_87 ?_
  refine g_iload_n F.chg d_Hub_init_90 0 rfl ?_
  refine g_newL F (rfl : List.length [3, 1004, 21, 226, 4, 1004, 1004, 1004, 6, 1090, 5, 1008, 5, 1008, 5, 1008, 5, 1008, 5, 1008, 5, 1008, 5, 1008, 5, 1008, 1, 1018, 1, 1018, 1, 1018, 1, 1018, 1, 1018, 1, 1018] = 38) ty_0 (rfl : classes[0]? = some ("SensorHub$Client", T_0, 11)) tyok_0 (fun j hj => by rcases (show j = 0 ∨ j = 1 ∨ j = 2 ∨ j = 3 ∨ j = 4 ∨ j = 5 ∨ j = 6 ∨ j = 7 ∨ j = 8 ∨ j = 9 ∨ j = 10 by omega) with rfl | rfl | rfl | rfl | rfl | rfl | rfl | rfl | rfl | rfl | rfl <;> rfl) (gw_I 101 (by decide +kernel) rfl) (gw_I 221 (by decide +kernel) rfl) (gw_I 75 (by decide +kernel) rfl) (hσ (v0 + 38) (by omega)) ⟨Nat.le_of_ble_eq_true rfl, Nat.le_of_ble_eq_true rfl⟩ d_Hub_init_91 ?_
  refine g_dup F.chg d_Hub_init_94 rfl ?_
  refine g_callIL (M := LCli) F hO (rfl : List.length [3, 1004, 21, 226, 4, 1004, 1004, 1004, 6, 1090, 5, 1008, 5, 1008, 5, 1008, 5, 1008, 5, 1008, 5, 1008, 5, 1008, 5, 1008, 1, 1018, 1, 1018, 1, 1018, 1, 1018, 1, 1018, 1, 1018] = 38) (by decide) (c_Cli_init l (v0 + 38) (by rw [insL_at (by decide)]; rfl) σ (fun v hv => hσ v (by omega))) ci_2_42 (Nat.le_of_ble_eq_true rfl) ⟨Nat.le_of_ble_eq_true rfl, Nat.le_of_ble_eq_true rfl⟩ ⟨Nat.le_of_ble_eq_true rfl, Nat.le_of_ble_eq_true rfl⟩ d_Hub_init_95 ?_
  refine g_eqL (L' := [3, 1004, 21, 226, 4, 1004, 1004, 1004, 6, 1090, 5, 1008, 5, 1008, 5, 1008, 5, 1008, 5, 1008, 5, 1008, 5, 1008, 5, 1008, 1, 1018, 1, 1018, 1, 1018, 1, 1018, 1, 1018, 1, 1018, 1, 1018]) (k' := v0 + 40) (ck' := 39) (sk' := 539) (by decide +kernel) rfl rfl rfl ?_
  refine g_aastL (kz := v0 + 40) (L := [3, 1004, 21, 226, 4, 1004, 1004, 1004, 6, 1090, 5, 1008, 5, 1008, 5, 1008, 5, 1008, 5, 1008, 5, 1008, 5, 1008, 5, 1008, 1, 1018, 1, 1018, 1, 1018, 1, 1018, 1, 1018, 1, 1018, 1, 1018]) (i := 6) (iv := 3) (iw := 38) F 6 3 8 0 23 2 220 227 22 ("SensorHub$Client", T_0, 11) rfl rfl (by decide) rfl (by decide) (by decide) rfl (by simp) (by decide) (by decide) rfl d_Hub_init_98 ?_
  refine g_eqL (L' := [3, 1004, 21, 227, 4, 1004, 1004, 1004, 6, 1090, 5, 1008, 5, 1008, 5, 1008, 5, 1008, 5, 1008, 5, 1008, 5, 1008, 5, 1008, 1, 1018, 1, 1018, 1, 1018, 1, 1018, 1, 1018, 1, 1018, 1, 1018]) (k' := v0 + 40) (ck' := 39) (sk' := 539) (by decide +kernel) rfl rfl rfl ?_
  refine g_iinc F.chg (v := 1) (ls' := [(1, .int 7), (0, .ref (b + (v0 + 0)))]) d_Hub_init_99 0 rfl (by decide) (by decide) rfl ?_
  refine g_goto F.chg (tgt := 80) d_Hub_init_102 (by decide) ?_
  refine g_iload_n F.chg d_Hub_init_80 0 rfl ?_
  refine g_bipush F.chg (v := 8) d_Hub_init_81 (by decide) ?_
  refine g_pf (q := (8 : Int32) ≤ 7) (by decide) (g_icmp_ge F.chg (tgt := 105) d_Hub_init_83 (by decide) (fun _ => g_no) (fun _ => ?_))
  refine g_aload_n F.chg d_Hub_init_86 1 rfl ?_
  refine g_getR F.chg fs_2_23 (v := v0 + 0) (by show insL _ _ _ (v0 + 0) = _; rw [insL_at (by decide)]; rfl) rfl d_Hub_init_87 ?_
  refine g_iload_n F.chg d_Hub_init_90 0 rfl ?_
  refine g_newL F (rfl : List.length [3, 1004, 21, 227, 4, 1004, 1004, 1004, 6, 1090, 5, 1008, 5, 1008, 5, 1008, 5, 1008, 5, 1008, 5, 1008, 5, 1008, 5, 1008, 1, 1018, 1, 1018, 1, 1018, 1, 1018, 1, 1018, 1, 1018, 1, 1018] = 40) ty_0 (rfl : classes[0]? = some ("SensorHub$Client", T_0, 11)) tyok_0 (fun j hj => by rcases (show j = 0 ∨ j = 1 ∨ j = 2 ∨ j = 3 ∨ j = 4 ∨ j = 5 ∨ j = 6 ∨ j = 7 ∨ j = 8 ∨ j = 9 ∨ j = 10 by omega) with rfl | rfl | rfl | rfl | rfl | rfl | rfl | rfl | rfl | rfl | rfl <;> rfl) (gw_I 101 (by decide +kernel) rfl) (gw_I 221 (by decide +kernel) rfl) (gw_I 75 (by decide +kernel) rfl) (hσ (v0 + 40) (by omega)) ⟨Nat.le_of_ble_eq_true rfl, Nat.le_of_ble_eq_true rfl⟩ d_Hub_init_91 ?_
  refine g_dup F.chg d_Hub_init_94 rfl ?_
  refine g_callIL (M := LCli) F hO (rfl : List.length [3, 1004, 21, 227, 4, 1004, 1004, 1004, 6, 1090, 5, 1008, 5, 1008, 5, 1008, 5, 1008, 5, 1008, 5, 1008, 5, 1008, 5, 1008, 1, 1018, 1, 1018, 1, 1018, 1, 1018, 1, 1018, 1, 1018, 1, 1018] = 40) (by decide) (c_Cli_init l (v0 + 40) (by rw [insL_at (by decide)]; rfl) σ (fun v hv => hσ v (by omega))) ci_2_42 (Nat.le_of_ble_eq_true rfl) ⟨Nat.le_of_ble_eq_true rfl, Nat.le_of_ble_eq_true rfl⟩ ⟨Nat.le_of_ble_eq_true rfl, Nat.le_of_ble_eq_true rfl⟩ d_Hub_init_95 ?_
  refine g_eqL (L' := [3, 1004, 21, 227, 4, 1004, 1004, 1004, 6, 1090, 5, 1008, 5, 1008, 5, 1008, 5, 1008, 5, 1008, 5, 1008, 5, 1008, 5, 1008, 1, 1018, 1, 1018, 1, 1018, 1, 1018, 1, 1018, 1, 1018, 1, 1018, 1, 1018]) (k' := v0 + 42) (ck' := 41) (sk' := 568) (by decide +kernel) rfl rfl rfl ?_
  refine g_aastL (kz := v0 + 42) (L := [3, 1004, 21, 227, 4, 1004, 1004, 1004, 6, 1090, 5, 1008, 5, 1008, 5, 1008, 5, 1008, 5, 1008, 5, 1008, 5, 1008, 5, 1008, 1, 1018, 1, 1018, 1, 1018, 1, 1018, 1, 1018, 1, 1018, 1, 1018, 1, 1018]) (i := 7) (iv := 3) (iw := 40) F 7 3 8 0 23 2 220 22 22 ("SensorHub$Client", T_0, 11) rfl rfl (by decide) rfl (by decide) (by decide) rfl (by simp) (by decide) (by decide) rfl d_Hub_init_98 ?_
  refine g_eqL (L' := [3, 1004, 21, 22, 4, 1004, 1004, 1004, 6, 1090, 5, 1008, 5, 1008, 5, 1008, 5, 1008, 5, 1008, 5, 1008, 5, 1008, 5, 1008, 1, 1018, 1, 1018, 1, 1018, 1, 1018, 1, 1018, 1, 1018, 1, 1018, 1, 1018]) (k' := v0 + 42) (ck' := 41) (sk' := 568) (by decide +kernel) rfl rfl rfl ?_
  refine g_iinc F.chg (v := 1) (ls' := [(1, .int 8), (0, .ref (b + (v0 + 0)))]) d_Hub_init_99 0 rfl (by decide) (by decide) rfl ?_
  refine g_goto F.chg (tgt := 80) d_Hub_init_102 (by decide) ?_
  refine g_iload_n F.chg d_Hub_init_80 0 rfl ?_
  refine g_bipush F.chg (v := 8) d_Hub_init_81 (by decide) ?_
  refine g_pt (q := (8 : Int32) ≤ 8) (by decide) (g_icmp_ge F.chg (tgt := 105) d_Hub_init_83 (by decide) (fun _ => ?_) (fun _ => g_no))
  refine g_eqL (L' := LHub) (k' := v0 + 42) (ck' := 41) (sk' := 568) (by decide +kernel) rfl rfl rfl ?_
  refine g_aload_n F.chg d_Hub_init_105 1 rfl ?_
  refine g_callV F.chg (dp := 2) (ci := 2) (v := v0 + 0) (As := []) (c_Hub_clear l v0 (hubOK_L (fun j hj => insL_at hj)) σ) cv_2_43 (by show insL _ _ _ (v0 + 0) = _; rw [insL_at (by decide)]; rfl) rfl rfl rfl (Nat.le_of_ble_eq_true rfl) ⟨Nat.le_of_ble_eq_true rfl, Nat.le_of_ble_eq_true rfl⟩ ⟨Nat.le_of_ble_eq_true rfl, Nat.le_of_ble_eq_true rfl⟩ d_Hub_init_106 (fun _ τ _ => ?_)
  exact g_vretN F.chg hlk hr d_Hub_init_109
def y_His_init : MethodName := ⟨"SensorHub$History", "<init>", "()V"⟩
theorem d_His_init_0 : decode prog_3_method_1_code 0 = .ok (.aload_n 0, 1) := by decide +kernel
theorem d_His_init_1 : decode prog_3_method_1_code 1 = .ok (.invokespecial 3, 3) := by decide +kernel
theorem d_His_init_4 : decode prog_3_method_1_code 4 = .ok (.aload_n 0, 1) := by decide +kernel
theorem d_His_init_5 : decode prog_3_method_1_code 5 = .ok (.iconst 5, 1) := by decide +kernel
theorem d_His_init_6 : decode prog_3_method_1_code 6 = .ok (.anewarray 9, 3) := by decide +kernel
theorem d_His_init_9 : decode prog_3_method_1_code 9 = .ok (.putfield 11, 3) := by decide +kernel
theorem d_His_init_12 : decode prog_3_method_1_code 12 = .ok (.iconst 0, 1) := by decide +kernel
theorem d_His_init_13 : decode prog_3_method_1_code 13 = .ok (.istore_n 1, 1) := by decide +kernel
theorem d_His_init_14 : decode prog_3_method_1_code 14 = .ok (.iload_n 1, 1) := by decide +kernel
theorem d_His_init_15 : decode prog_3_method_1_code 15 = .ok (.iconst 5, 1) := by decide +kernel
theorem d_His_init_16 : decode prog_3_method_1_code 16 = .ok (.if_icmp .ge 22, 3) := by decide +kernel
theorem d_His_init_19 : decode prog_3_method_1_code 19 = .ok (.aload_n 0, 1) := by decide +kernel
theorem d_His_init_20 : decode prog_3_method_1_code 20 = .ok (.getfield 11, 3) := by decide +kernel
theorem d_His_init_23 : decode prog_3_method_1_code 23 = .ok (.iload_n 1, 1) := by decide +kernel
theorem d_His_init_24 : decode prog_3_method_1_code 24 = .ok (.new 9, 3) := by decide +kernel
theorem d_His_init_27 : decode prog_3_method_1_code 27 = .ok (.dup, 1) := by decide +kernel
theorem d_His_init_28 : decode prog_3_method_1_code 28 = .ok (.invokespecial 17, 3) := by decide +kernel
theorem d_His_init_31 : decode prog_3_method_1_code 31 = .ok (.aastore, 1) := by decide +kernel
theorem d_His_init_32 : decode prog_3_method_1_code 32 = .ok (.iinc 1 1, 3) := by decide +kernel
theorem d_His_init_35 : decode prog_3_method_1_code 35 = .ok (.goto (-21), 3) := by decide +kernel
theorem d_His_init_38 : decode prog_3_method_1_code 38 = .ok (.return_, 1) := by decide +kernel
theorem ci_1_17 : CI "SensorHub$History" 17 y_Hub_init prog_4_method_1_code 2 := ⟨Or.inl (gw_I 338 (by decide +kernel) rfl), gw_I 96 (by decide +kernel) rfl, gw_I 71 (by decide +kernel) rfl, gw_I 97 (by decide +kernel) rfl, ⟨by decide +kernel, by decide +kernel⟩, by decide +kernel, rfl⟩
def LHis : List Nat := [2, 23, 3, 1004, 21, 22, 4, 1004, 1004, 1004, 6, 1090, 5, 1008, 5, 1008, 5, 1008, 5, 1008, 5, 1008, 5, 1008, 5, 1008, 5, 1008, 1, 1018, 1, 1018, 1, 1018, 1, 1018, 1, 1018, 1, 1018, 1, 1018, 1, 1018, 3, 1004, 21, 22, 4, 1004, 1004, 1004, 6, 1090, 5, 1008, 5, 1008, 5, 1008, 5, 1008, 5, 1008, 5, 1008, 5, 1008, 5, 1008, 1, 1018, 1, 1018, 1, 1018, 1, 1018, 1, 1018, 1, 1018, 1, 1018, 1, 1018, 3, 1004, 21, 22, 4, 1004, 1004, 1004, 6, 1090, 5, 1008, 5, 1008, 5, 1008, 5, 1008, 5, 1008, 5, 1008, 5, 1008, 5, 1008, 1, 1018, 1, 1018, 1, 1018, 1, 1018, 1, 1018, 1, 1018, 1, 1018, 1, 1018, 3, 1004, 21, 22, 4, 1004, 1004, 1004, 6, 1090, 5, 1008, 5, 1008, 5, 1008, 5, 1008, 5, 1008, 5, 1008, 5, 1008, 5, 1008, 1, 1018, 1, 1018, 1, 1018, 1, 1018, 1, 1018, 1, 1018, 1, 1018, 1, 1018, 3, 1004, 21, 22, 4, 1004, 1004, 1004, 6, 1090, 5, 1008, 5, 1008, 5, 1008, 5, 1008, 5, 1008, 5, 1008, 5, 1008, 5, 1008, 1, 1018, 1, 1018, 1, 1018, 1, 1018, 1, 1018, 1, 1018, 1, 1018, 1, 1018]
set_option maxRecDepth 100000 in
set_option maxHeartbeats 4000000 in
theorem c_His_init {D : va_G} {b : Nat} {cA : Nat → ClassId} {kA sh : Nat → Nat} (l : Launch) (v0 : Nat) (hsh : sh v0 = 110) (σ σ1 σ2 σ3 σ4 σ5 : Mem) (hσ0 : ∀ v, v0 + 0 < v → σ v = fun _ => 0) (hσ1 : ∀ v, v0 + 43 < v → σ1 v = fun _ => 0) (hσ2 : ∀ v, v0 + 85 < v → σ2 v = fun _ => 0) (hσ3 : ∀ v, v0 + 127 < v → σ3 v = fun _ => 0) (hσ4 : ∀ v, v0 + 169 < v → σ4 v = fun _ => 0) (hc0 : f_Hub_clear (v0 + 2) σ = some ((), σ1)) (hc1 : f_Hub_clear (v0 + 44) σ1 = some ((), σ2)) (hc2 : f_Hub_clear (v0 + 86) σ2 = some ((), σ3)) (hc3 : f_Hub_clear (v0 + 128) σ3 = some ((), σ4)) (hc4 : f_Hub_clear (v0 + 170) σ4 = some ((), σ5)) : CN (KX D b cA kA sh (v0 + 1)) (KX D b cA kA (insL sh v0 LHis) (v0 + LHis.length)) l y_His_init prog_3_method_1_code 2 4 211 2900 [.ref (b + v0)] σ σ5 := by
  refine CN_of (o := some ((), σ5)) (by decide +kernel) (Nat.le_of_ble_eq_true rfl) (rfl) rfl ?_
  intro p e s m args below meth c F hlk hr hin hO
  have F : FR p s m args c prog_3_method_1_code 2 "SensorHub$History" (KX D b cA kA sh (v0 + 1)) := F
  refine g_re (sh' := insL sh v0 [110]) (insL_one hsh) rfl rfl rfl ?_
  show G (KX D b cA kA (insL sh v0 [110]) (v0 + 1)) p l e { frames := 4, cells := 211, slots := 2900, locals := 35 * 4 } s m args below meth c 2 0 0 _ 0 [(0, .ref (b + (v0 + 0)))] [] σ _
  refine g_aload_n F.chg d_His_init_0 0 rfl ?_
  refine g_objInit F.chg (gw_I 335 (by decide +kernel) rfl) (gw_I 91 (by decide +kernel) rfl) (gw_I 92 (by decide +kernel) rfl) ⟨Nat.le_of_ble_eq_true rfl, Nat.le_of_ble_eq_true rfl⟩ d_His_init_1 ?_
  refine g_aload_n F.chg d_His_init_4 0 rfl ?_
  refine g_iconst F.chg (v := 5) d_His_init_5 (by decide) ?_
  refine g_newqL (kz := 0) F (rfl : List.length [110] = 1) 240 4 5 "SensorHub$Hub" rfl hO.2.2 (gw_I 336 (by decide +kernel) rfl) (by decide) (Or.inr (Or.inr ⟨rfl, rfl, rfl⟩)) ⟨Nat.le_of_ble_eq_true rfl, Nat.le_of_ble_eq_true rfl⟩ d_His_init_6 ?_
  refine g_eqL (L' := [110, 240]) (k' := v0 + 2) (ck' := 1) (sk' := 5) (by decide +kernel) rfl rfl rfl ?_
  refine g_putRL F (i := 0) (w := v0 + 1) (j := 2) 110 2 (.array (.object "SensorHub$Hub")) (rfl : classes[1]? = some ("SensorHub$History", T_1, 3)) (by decide) rfl rfl (gw_I 342 (by decide +kernel) rfl) rfl hin (by decide +kernel) (fun _ => rfl) (fun _ => rfl) (by decide) rfl (by decide) (by decide) (fun _ => rfl) (by decide) d_His_init_9 ?_
  refine g_eqL (L' := [2, 240]) (k' := v0 + 2) (ck' := 1) (sk' := 5) (by decide +kernel) rfl rfl rfl ?_
  refine g_iconst F.chg (v := 0) d_His_init_12 (by decide) ?_
  refine g_istore_n F.chg (ls' := [(1, .int 0), (0, .ref (b + (v0 + 0)))]) d_His_init_13 (by decide) rfl ?_
  refine g_iload_n F.chg d_His_init_14 0 rfl ?_
  refine g_iconst F.chg (v := 5) d_His_init_15 (by decide) ?_
  refine g_pf (q := (5 : Int32) ≤ 0) (by decide) (g_icmp_ge F.chg (tgt := 38) d_His_init_16 (by decide) (fun _ => g_no) (fun _ => ?_))
  refine g_aload_n F.chg d_His_init_19 1 rfl ?_
  refine g_getR F.chg fs_1_11 (v := v0 + 0) (by show insL _ _ _ (v0 + 0) = _; rw [insL_at (by decide)]; rfl) rfl d_His_init_20 ?_
  refine g_iload_n F.chg d_His_init_23 0 rfl ?_
  refine g_newL F (rfl : List.length [2, 240] = 2) ty_2 (rfl : classes[2]? = some ("SensorHub$Hub", T_2, 11)) tyok_2 (fun j hj => by rcases (show j = 0 ∨ j = 1 ∨ j = 2 ∨ j = 3 ∨ j = 4 ∨ j = 5 ∨ j = 6 ∨ j = 7 ∨ j = 8 ∨ j = 9 ∨ j = 10 by omega) with rfl | rfl | rfl | rfl | rfl | rfl | rfl | rfl | rfl | rfl | rfl <;> rfl) (gw_I 336 (by decide +kernel) rfl) (gw_I 94 (by decide +kernel) rfl) (gw_I 71 (by decide +kernel) rfl) (hσ0 (v0 + 2) (by omega)) ⟨Nat.le_of_ble_eq_true rfl, Nat.le_of_ble_eq_true rfl⟩ d_His_init_24 ?_
  refine g_dup F.chg d_His_init_27 rfl ?_
  refine g_callIL (M := LHub) F hO (rfl : List.length [2, 240] = 2) (by decide) (c_Hub_init l (v0 + 2) (by rw [insL_at (by decide)]; rfl) σ σ1 (fun v hv => hσ0 v (by omega)) hc0) ci_1_17 (Nat.le_of_ble_eq_true rfl) ⟨Nat.le_of_ble_eq_true rfl, Nat.le_of_ble_eq_true rfl⟩ ⟨Nat.le_of_ble_eq_true rfl, Nat.le_of_ble_eq_true rfl⟩ d_His_init_28 ?_
  refine g_eqL (L' := [2, 240, 3, 1004, 21, 22, 4, 1004, 1004, 1004, 6, 1090, 5, 1008, 5, 1008, 5, 1008, 5, 1008, 5, 1008, 5, 1008, 5, 1008, 5, 1008, 1, 1018, 1, 1018, 1, 1018, 1, 1018, 1, 1018, 1, 1018, 1, 1018, 1, 1018]) (k' := v0 + 44) (ck' := 43) (sk' := 584) (by decide +kernel) rfl rfl rfl ?_
  refine g_aastL (kz := v0 + 44) (L := [2, 240, 3, 1004, 21, 22, 4, 1004, 1004, 1004, 6, 1090, 5, 1008, 5, 1008, 5, 1008, 5, 1008, 5, 1008, 5, 1008, 5, 1008, 5, 1008, 1, 1018, 1, 1018, 1, 1018, 1, 1018, 1, 1018, 1, 1018, 1, 1018, 1, 1018]) (i := 0) (iv := 1) (iw := 2) F 0 4 5 2 1 42 240 241 23 ("SensorHub$Hub", T_2, 11) rfl rfl (by decide) rfl (by decide) (by decide) rfl (by simp) (by decide) (by decide) rfl d_His_init_31 ?_
  refine g_eqL (L' := [2, 241, 3, 1004, 21, 22, 4, 1004, 1004, 1004, 6, 1090, 5, 1008, 5, 1008, 5, 1008, 5, 1008, 5, 1008, 5, 1008, 5, 1008, 5, 1008, 1, 1018, 1, 1018, 1, 1018, 1, 1018, 1, 1018, 1, 1018, 1, 1018, 1, 1018]) (k' := v0 + 44) (ck' := 43) (sk' := 584) (by decide +kernel) rfl rfl rfl ?_
  refine g_iinc F.chg (v := 1) (ls' := [(1, .int 1), (0, .ref (b + (v0 + 0)))]) d_His_init_32 0 rfl (by decide) (by decide) rfl ?_
  refine g_goto F.chg (tgt := 14) d_His_init_35 (by decide) ?_
  refine g_iload_n F.chg d_His_init_14 0 rfl ?_
  refine g_iconst F.chg (v := 5) d_His_init_15 (by decide) ?_
  refine g_pf (q := (5 : Int32) ≤ 1) (by decide) (g_icmp_ge F.chg (tgt := 38) d_His_init_16 (by decide) (fun _ => g_no) (fun _ => ?_))
  refine g_aload_n F.chg d_His_init_19 1 rfl ?_
  refine g_getR F.chg fs_1_11 (v := v0 + 0) (by show insL _ _ _ (v0 + 0) = _; rw [insL_at (by decide)]; rfl) rfl d_His_init_20 ?_
  refine g_iload_n F.chg d_His_init_23 0 rfl ?_
  refine g_newL F (rfl : List.length [2, 241, 3, 1004, 21, 22, 4, 1004, 1004, 1004, 6, 1090, 5, 1008, 5, 1008, 5, 1008, 5, 1008, 5, 1008, 5, 1008, 5, 1008, 5, 1008, 1, 1018, 1, 1018, 1, 1018, 1, 1018, 1, 1018, 1, 1018, 1, 1018, 1, 1018] = 44) ty_2 (rfl : classes[2]? = some ("SensorHub$Hub", T_2, 11)) tyok_2 (fun j hj => by rcases (show j = 0 ∨ j = 1 ∨ j = 2 ∨ j = 3 ∨ j = 4 ∨ j = 5 ∨ j = 6 ∨ j = 7 ∨ j = 8 ∨ j = 9 ∨ j = 10 by omega) with rfl | rfl | rfl | rfl | rfl | rfl | rfl | rfl | rfl | rfl | rfl <;> rfl) (gw_I 336 (by decide +kernel) rfl) (gw_I 94 (by decide +kernel) rfl) (gw_I 71 (by decide +kernel) rfl) (hσ1 (v0 + 44) (by omega)) ⟨Nat.le_of_ble_eq_true rfl, Nat.le_of_ble_eq_true rfl⟩ d_His_init_24 ?_
  refine g_dup F.chg d_His_init_27 rfl ?_
  refine g_callIL (M := LHub) F hO (rfl : List.length [2, 241, 3, 1004, 21, 22, 4, 1004, 1004, 1004, 6, 1090, 5, 1008, 5, 1008, 5, 1008, 5, 1008, 5, 1008, 5, 1008, 5, 1008, 5, 1008, 1, 1018, 1, 1018, 1, 1018, 1, 1018, 1, 1018, 1, 1018, 1, 1018, 1, 1018] = 44) (by decide) (c_Hub_init l (v0 + 44) (by rw [insL_at (by decide)]; rfl) σ1 σ2 (fun v hv => hσ1 v (by omega)) hc1) ci_1_17 (Nat.le_of_ble_eq_true rfl) ⟨Nat.le_of_ble_eq_true rfl, Nat.le_of_ble_eq_true rfl⟩ ⟨Nat.le_of_ble_eq_true rfl, Nat.le_of_ble_eq_true rfl⟩ d_His_init_28 ?_
  refine g_eqL (L' := [2, 241, 3, 1004, 21, 22, 4, 1004, 1004, 1004, 6, 1090, 5, 1008, 5, 1008, 5, 1008, 5, 1008, 5, 1008, 5, 1008, 5, 1008, 5, 1008, 1, 1018, 1, 1018, 1, 1018, 1, 1018, 1, 1018, 1, 1018, 1, 1018, 1, 1018, 3, 1004, 21, 22, 4, 1004, 1004, 1004, 6, 1090, 5, 1008, 5, 1008, 5, 1008, 5, 1008, 5, 1008, 5, 1008, 5, 1008, 5, 1008, 1, 1018, 1, 1018, 1, 1018, 1, 1018, 1, 1018, 1, 1018, 1, 1018, 1, 1018]) (k' := v0 + 86) (ck' := 85) (sk' := 1163) (by decide +kernel) rfl rfl rfl ?_
  refine g_aastL (kz := v0 + 86) (L := [2, 241, 3, 1004, 21, 22, 4, 1004, 1004, 1004, 6, 1090, 5, 1008, 5, 1008, 5, 1008, 5, 1008, 5, 1008, 5, 1008, 5, 1008, 5, 1008, 1, 1018, 1, 1018, 1, 1018, 1, 1018, 1, 1018, 1, 1018, 1, 1018, 1, 1018, 3, 1004, 21, 22, 4, 1004, 1004, 1004, 6, 1090, 5, 1008, 5, 1008, 5, 1008, 5, 1008, 5, 1008, 5, 1008, 5, 1008, 5, 1008, 1, 1018, 1, 1018, 1, 1018, 1, 1018, 1, 1018, 1, 1018, 1, 1018, 1, 1018]) (i := 1) (iv := 1) (iw := 44) F 1 4 5 2 1 42 240 242 23 ("SensorHub$Hub", T_2, 11) rfl rfl (by decide) rfl (by decide) (by decide) rfl (by simp) (by decide) (by decide) rfl d_His_init_31 ?_
  refine g_eqL (L' := [2, 242, 3, 1004, 21, 22, 4, 1004, 1004, 1004, 6, 1090, 5, 1008, 5, 1008, 5, 1008, 5, 1008, 5, 1008, 5, 1008, 5, 1008, 5, 1008, 1, 1018, 1, 1018, 1, 1018, 1, 1018, 1, 1018, 1, 1018, 1, 1018, 1, 1018, 3, 1004, 21, 22, 4, 1004, 1004, 1004, 6, 1090, 5, 1008, 5, 1008, 5, 1008, 5, 1008, 5, 1008, 5, 1008, 5, 1008, 5, 1008, 1, 1018, 1, 1018, 1, 1018, 1, 1018, 1, 1018, 1, 1018, 1, 1018, 1, 1018]) (k' := v0 + 86) (ck' := 85) (sk' := 1163) (by decide +kernel) rfl rfl rfl ?_
  refine g_iinc F.chg (v := 1) (ls' := [(1, .int 2), (0, .ref (b + (v0 + 0)))]) d_His_init_32 0 rfl (by decide) (by decide) rfl ?_
  refine g_goto F.chg (tgt := 14) d_His_init_35 (by decide) ?_
  refine g_iload_n F.chg d_His_init_14 0 rfl ?_
  refine g_iconst F.chg (v := 5) d_His_init_15 (by decide) ?_
  refine g_pf (q := (5 : Int32) ≤ 2) (by decide) (g_icmp_ge F.chg (tgt := 38) d_His_init_16 (by decide) (fun _ => g_no) (fun _ => ?_))
  refine g_aload_n F.chg d_His_init_19 1 rfl ?_
  refine g_getR F.chg fs_1_11 (v := v0 + 0) (by show insL _ _ _ (v0 + 0) = _; rw [insL_at (by decide)]; rfl) rfl d_His_init_20 ?_
  refine g_iload_n F.chg d_His_init_23 0 rfl ?_
  refine g_newL F (rfl : List.length [2, 242, 3, 1004, 21, 22, 4, 1004, 1004, 1004, 6, 1090, 5, 1008, 5, 1008, 5, 1008, 5, 1008, 5, 1008, 5, 1008, 5, 1008, 5, 1008, 1, 1018, 1, 1018, 1, 1018, 1, 1018, 1, 1018, 1, 1018, 1, 1018, 1, 1018, 3, 1004, 21, 22, 4, 1004, 1004, 1004, 6, 1090, 5, 1008, 5, 1008, 5, 1008, 5, 1008, 5, 1008, 5, 1008, 5, 1008, 5, 1008, 1, 1018, 1, 1018, 1, 1018, 1, 1018, 1, 1018, 1, 1018, 1, 1018, 1, 1018] = 86) ty_2 (rfl : classes[2]? = some ("SensorHub$Hub", T_2, 11)) tyok_2 (fun j hj => by rcases (show j = 0 ∨ j = 1 ∨ j = 2 ∨ j = 3 ∨ j = 4 ∨ j = 5 ∨ j = 6 ∨ j = 7 ∨ j = 8 ∨ j = 9 ∨ j = 10 by omega) with rfl | rfl | rfl | rfl | rfl | rfl | rfl | rfl | rfl | rfl | rfl <;> rfl) (gw_I 336 (by decide +kernel) rfl) (gw_I 94 (by decide +kernel) rfl) (gw_I 71 (by decide +kernel) rfl) (hσ2 (v0 + 86) (by omega)) ⟨Nat.le_of_ble_eq_true rfl, Nat.le_of_ble_eq_true rfl⟩ d_His_init_24 ?_
  refine g_dup F.chg d_His_init_27 rfl ?_
  refine g_callIL (M := LHub) F hO (rfl : List.length [2, 242, 3, 1004, 21, 22, 4, 1004, 1004, 1004, 6, 1090, 5, 1008, 5, 1008, 5, 1008, 5, 1008, 5, 1008, 5, 1008, 5, 1008, 5, 1008, 1, 1018, 1, 1018, 1, 1018, 1, 1018, 1, 1018, 1, 1018, 1, 1018, 1, 1018, 3, 1004, 21, 22, 4, 1004, 1004, 1004, 6, 1090, 5, 1008, 5, 1008, 5, 1008, 5, 1008, 5, 1008, 5, 1008, 5, 1008, 5, 1008, 1, 1018, 1, 1018, 1, 1018, 1, 1018, 1, 1018, 1, 1018, 1, 1018, 1, 1018] = 86) (by decide) (c_Hub_init l (v0 + 86) (by rw [insL_at (by decide)]; rfl) σ2 σ3 (fun v hv => hσ2 v (by omega)) hc2) ci_1_17 (Nat.le_of_ble_eq_true rfl) ⟨Nat.le_of_ble_eq_true rfl, Nat.le_of_ble_eq_true rfl⟩ ⟨Nat.le_of_ble_eq_true rfl, Nat.le_of_ble_eq_true rfl⟩ d_His_init_28 ?_
  refine g_eqL (L' := [2, 242, 3, 1004, 21, 22, 4, 1004, 1004, 1004, 6, 1090, 5, 1008, 5, 1008, 5, 1008, 5, 1008, 5, 1008, 5, 1008, 5, 1008, 5, 1008, 1, 1018, 1, 1018, 1, 1018, 1, 1018, 1, 1018, 1, 1018, 1, 1018, 1, 1018, 3, 1004, 21, 22, 4, 1004, 1004, 1004, 6, 1090, 5, 1008, 5, 1008, 5, 1008, 5, 1008, 5, 1008, 5, 1008, 5, 1008, 5, 1008, 1, 1018, 1, 1018, 1, 1018, 1, 1018, 1, 1018, 1, 1018, 1, 1018, 1, 1018, 3, 1004, 21, 22, 4, 1004, 1004, 1004, 6, 1090, 5, 1008, 5, 1008, 5, 1008, 5, 1008, 5, 1008, 5, 1008, 5, 1008, 5, 1008, 1, 1018, 1, 1018, 1, 1018, 1, 1018, 1, 1018, 1, 1018, 1, 1018, 1, 1018]) (k' := v0 + 128) (ck' := 127) (sk' := 1742) (by decide +kernel) rfl rfl rfl ?_
  refine g_aastL (kz := v0 + 128) (L := [2, 242, 3, 1004, 21, 22, 4, 1004, 1004, 1004, 6, 1090, 5, 1008, 5, 1008, 5, 1008, 5, 1008, 5, 1008, 5, 1008, 5, 1008, 5, 1008, 1, 1018, 1, 1018, 1, 1018, 1, 1018, 1, 1018, 1, 1018, 1, 1018, 1, 1018, 3, 1004, 21, 22, 4, 1004, 1004, 1004, 6, 1090, 5, 1008, 5, 1008, 5, 1008, 5, 1008, 5, 1008, 5, 1008, 5, 1008, 5, 1008, 1, 1018, 1, 1018, 1, 1018, 1, 1018, 1, 1018, 1, 1018, 1, 1018, 1, 1018, 3, 1004, 21, 22, 4, 1004, 1004, 1004, 6, 1090, 5, 1008, 5, 1008, 5, 1008, 5, 1008, 5, 1008, 5, 1008, 5, 1008, 5, 1008, 1, 1018, 1, 1018, 1, 1018, 1, 1018, 1, 1018, 1, 1018, 1, 1018, 1, 1018]) (i := 2) (iv := 1) (iw := 86) F 2 4 5 2 1 42 240 243 23 ("SensorHub$Hub", T_2, 11) rfl rfl (by decide) rfl (by decide) (by decide) rfl (by simp) (by decide) (by decide) rfl d_His_init_31 ?_
  refine g_eqL (L' := [2, 243, 3, 1004, 21, 22, 4, 1004, 1004, 1004, 6, 1090, 5, 1008, 5, 1008, 5, 1008, 5, 1008, 5, 1008, 5, 1008, 5, 1008, 5, 1008, 1, 1018, 1, 1018, 1, 1018, 1, 1018, 1, 1018, 1, 1018, 1, 1018, 1, 1018, 3, 1004, 21, 22, 4, 1004, 1004, 1004, 6, 1090, 5, 1008, 5, 1008, 5, 1008, 5, 1008, 5, 1008, 5, 1008, 5, 1008, 5, 1008, 1, 1018, 1, 1018, 1, 1018, 1, 1018, 1, 1018, 1, 1018, 1, 1018, 1, 1018, 3, 1004, 21, 22, 4, 1004, 1004, 1004, 6, 1090, 5, 1008, 5, 1008, 5, 1008, 5, 1008, 5, 1008, 5, 1008, 5, 1008, 5, 1008, 1, 1018, 1, 1018, 1, 1018, 1, 1018, 1, 1018, 1, 1018, 1, 1018, 1, 1018]) (k' := v0 + 128) (ck' := 127) (sk' := 1742) (by decide +kernel) rfl rfl rfl ?_
  refine g_iinc F.chg (v := 1) (ls' := [(1, .int 3), (0, .ref (b + (v0 + 0)))]) d_His_init_32 0 rfl (by decide) (by decide) rfl ?_
  refine g_goto F.chg (tgt := 14) d_His_init_35 (by decide) ?_
  refine g_iload_n F.chg d_His_init_14 0 rfl ?_
  refine g_iconst F.chg (v := 5) d_His_init_15 (by decide) ?_
  refine g_pf (q := (5 : Int32) ≤ 3) (by decide) (g_icmp_ge F.chg (tgt := 38) d_His_init_16 (by decide) (fun _ => g_no) (fun _ => ?_))
  refine g_aload_n F.chg d_His_init_19 1 rfl ?_
  refine g_getR F.chg fs_1_11 (v := v0 + 0) (by show insL _ _ _ (v0 + 0) = _; rw [insL_at (by decide)]; rfl) rfl d_His_init_20 ?_
  refine g_iload_n F.chg d_His_init_23 0 rfl ?_
  refine g_newL F (rfl : List.length [2, 243, 3, 1004, 21, 22, 4, 1004, 1004, 1004, 6, 1090, 5, 1008, 5, 1008, 5, 1008, 5, 1008, 5, 1008, 5, 1008, 5, 1008, 5, 1008, 1, 1018, 1, 1018, 1, 1018, 1, 1018, 1, 1018, 1, 1018, 1, 1018, 1, 1018, 3, 1004, 21, 22, 4, 1004, 1004, 1004, 6, 1090, 5, 1008, 5, 1008, 5, 1008, 5, 1008, 5, 1008, 5, 1008, 5, 1008, 5, 1008, 1, 1018, 1, 1018, 1, 1018, 1, 1018, 1, 1018, 1, 1018, 1, 1018, 1, 1018, 3, 1004, 21, 22, 4, 1004, 1004, 1004, 6, 1090, 5, 1008, 5, 1008, 5, 1008, 5, 1008, 5, 1008, 5, 1008, 5, 1008, 5, 1008, 1, 1018, 1, 1018, 1, 1018, 1, 1018, 1, 1018, 1, 1018, 1, 1018, 1, 1018] = 128) ty_2 (rfl : classes[2]? = some ("SensorHub$Hub", T_2, 11)) tyok_2 (fun j hj => by rcases (show j = 0 ∨ j = 1 ∨ j = 2 ∨ j = 3 ∨ j = 4 ∨ j = 5 ∨ j = 6 ∨ j = 7 ∨ j = 8 ∨ j = 9 ∨ j = 10 by omega) with rfl | rfl | rfl | rfl | rfl | rfl | rfl | rfl | rfl | rfl | rfl <;> rfl) (gw_I 336 (by decide +kernel) rfl) (gw_I 94 (by decide +kernel) rfl) (gw_I 71 (by decide +kernel) rfl) (hσ3 (v0 + 128) (by omega)) ⟨Nat.le_of_ble_eq_true rfl, Nat.le_of_ble_eq_true rfl⟩ d_His_init_24 ?_
  refine g_dup F.chg d_His_init_27 rfl ?_
  refine g_callIL (M := LHub) F hO (rfl : List.length [2, 243, 3, 1004, 21, 22, 4, 1004, 1004, 1004, 6, 1090, 5, 1008, 5, 1008, 5, 1008, 5, 1008, 5, 1008, 5, 1008, 5, 1008, 5, 1008, 1, 1018, 1, 1018, 1, 1018, 1, 1018, 1, 1018, 1, 1018, 1, 1018, 1, 1018, 3, 1004, 21, 22, 4, 1004, 1004, 1004, 6, 1090, 5, 1008, 5, 1008, 5, 1008, 5, 1008, 5, 1008, 5, 1008, 5, 1008, 5, 1008, 1, 1018, 1, 1018, 1, 1018, 1, 1018, 1, 1018, 1, 1018, 1, 1018, 1, 1018, 3, 1004, 21, 22, 4, 1004, 1004, 1004, 6, 1090, 5, 1008, 5, 1008, 5, 1008, 5, 1008, 5, 1008, 5, 1008, 5, 1008, 5, 1008, 1, 1018, 1, 1018, 1, 1018, 1, 1018, 1, 1018, 1, 1018, 1, 1018, 1, 1018] = 128) (by decide) (c_Hub_init l (v0 + 128) (by rw [insL_at (by decide)]; rfl) σ3 σ4 (fun v hv => hσ3 v (by omega)) hc3) ci_1_17 (Nat.le_of_ble_eq_true rfl) ⟨Nat.le_of_ble_eq_true rfl, Nat.le_of_ble_eq_true rfl⟩ ⟨Nat.le_of_ble_eq_true rfl, Nat.le_of_ble_eq_true rfl⟩ d_His_init_28 ?_
  refine g_eqL (L' := [2, 243, 3, 1004, 21, 22, 4, 1004, 1004, 1004, 6, 1090, 5, 1008, 5, 1008, 5, 1008, 5, 1008, 5, 1008, 5, 1008, 5, 1008, 5, 1008, 1, 1018, 1, 1018, 1, 1018, 1, 1018, 1, 1018, 1, 1018, 1, 1018, 1, 1018, 3, 1004, 21, 22, 4, 1004, 1004, 1004, 6, 1090, 5, 1008, 5, 1008, 5, 1008, 5, 1008, 5, 1008, 5, 1008, 5, 1008, 5, 1008, 1, 1018, 1, 1018, 1, 1018, 1, 1018, 1, 1018, 1, 1018, 1, 1018, 1, 1018, 3, 1004, 21, 22, 4, 1004, 1004, 1004, 6, 1090, 5, 1008, 5, 1008, 5, 1008, 5, 1008, 5, 1008, 5, 1008, 5, 1008, 5, 1008, 1, 1018, 1, 1018, 1, 1018, 1, 1018, 1, 1018, 1, 1018, 1, 1018, 1, 1018, 3, 1004, 21, 22, 4, 1004, 1004, 1004, 6, 1090, 5, 1008, 5, 1008, 5, 1008, 5, 1008, 5, 1008, 5, 1008, 5, 1008, 5, 1008, 1, 1018, 1, 1018, 1, 1018, 1, 1018, 1, 1018, 1, 1018, 1, 1018, 1, 1018]) (k' := v0 + 170) (ck' := 169) (sk' := 2321) (by decide +kernel) rfl rfl rfl ?_
  refine g_aastL (kz := v0 + 170) (L := [2, 243, 3, 1004, 21, 22, 4, 1004, 1004, 1004, 6, 1090, 5, 1008, 5, 1008, 5, 1008, 5, 1008, 5, 1008, 5, 1008, 5, 1008, 5, 1008, 1, 1018, 1, 1018, 1, 1018, 1, 1018, 1, 1018, 1, 1018, 1, 1018, 1, 1018, 3, 1004, 21, 22, 4, 1004, 1004, 1004, 6, 1090, 5, 1008, 5, 1008, 5, 1008, 5, 1008, 5, 1008, 5, 1008, 5, 1008, 5, 1008, 1, 1018, 1, 1018, 1, 1018, 1, 1018, 1, 1018, 1, 1018, 1, 1018, 1, 1018, 3, 1004, 21, 22, 4, 1004, 1004, 1004, 6, 1090, 5, 1008, 5, 1008, 5, 1008, 5, 1008, 5, 1008, 5, 1008, 5, 1008, 5, 1008, 1, 1018, 1, 1018, 1, 1018, 1, 1018, 1, 1018, 1, 1018, 1, 1018, 1, 1018, 3, 1004, 21, 22, 4, 1004, 1004, 1004, 6, 1090, 5, 1008, 5, 1008, 5, 1008, 5, 1008, 5, 1008, 5, 1008, 5, 1008, 5, 1008, 1, 1018, 1, 1018, 1, 1018, 1, 1018, 1, 1018, 1, 1018, 1, 1018, 1, 1018]) (i := 3) (iv := 1) (iw := 128) F 3 4 5 2 1 42 240 244 23 ("SensorHub$Hub", T_2, 11) rfl rfl (by decide) rfl (by decide) (by decide) rfl (by simp) (by decide) (by decide) rfl d_His_init_31 ?_
  refine g_eqL (L' := [2, 244, 3, 1004, 21, 22, 4, 1004, 1004, 1004, 6, 1090, 5, 1008, 5, 1008, 5, 1008, 5, 1008, 5, 1008, 5, 1008, 5, 1008, 5, 1008, 1, 1018, 1, 1018, 1, 1018, 1, 1018, 1, 1018, 1, 1018, 1, 1018, 1, 1018, 3, 1004, 21, 22, 4, 1004, 1004, 1004, 6, 1090, 5, 1008, 5, 1008, 5, 1008, 5, 1008, 5, 1008, 5, 1008, 5, 1008, 5, 1008, 1, 1018, 1, 1018, 1, 1018, 1, 1018, 1, 1018, 1, 1018, 1, 1018, 1, 1018, 3, 1004, 21, 22, 4, 1004, 1004, 1004, 6, 1090, 5, 1008, 5, 1008, 5, 1008, 5, 1008, 5, 1008, 5, 1008, 5, 1008, 5, 1008, 1, 1018, 1, 1018, 1, 1018, 1, 1018, 1, 1018, 1, 1018, 1, 1018, 1, 1018, 3, 1004, 21, 22, 4, 1004, 1004, 1004, 6, 1090, 5, 1008, 5, 1008, 5, 1008, 5, 1008, 5, 1008, 5, 1008, 5, 1008, 5, 1008, 1, 1018, 1, 1018, 1, 1018, 1, 1018, 1, 1018, 1, 1018, 1, 1018, 1, 1018]) (k' := v0 + 170) (ck' := 169) (sk' := 2321) (by decide +kernel) rfl rfl rfl ?_
  refine g_iinc F.chg (v := 1) (ls' := [(1, .int 4), (0, .ref (b + (v0 + 0)))]) d_His_init_32 0 rfl (by decide) (by decide) rfl ?_
  refine g_goto F.chg (tgt := 14) d_His_init_35 (by decide) ?_
  refine g_iload_n F.chg d_His_init_14 0 rfl ?_
  refine g_iconst F.chg (v := 5) d_His_init_15 (by decide) ?_
  refine g_pf (q := (5 : Int32) ≤ 4) (by decide) (g_icmp_ge F.chg (tgt := 38) d_His_init_16 (by decide) (fun _ => g_no) (fun _ => ?_))
  refine g_aload_n F.chg d_His_init_19 1 rfl ?_
  refine g_getR F.chg fs_1_11 (v := v0 + 0) (by show insL _ _ _ (v0 + 0) = _; rw [insL_at (by decide)]; rfl) rfl d_His_init_20 ?_
  refine g_iload_n F.chg d_His_init_23 0 rfl ?_
  refine g_newL F (rfl : List.length [2, 244, 3, 1004, 21, 22, 4, 1004, 1004, 1004, 6, 1090, 5, 1008, 5, 1008, 5, 1008, 5, 1008, 5, 1008, 5, 1008, 5, 1008, 5, 1008, 1, 1018, 1, 1018, 1, 1018, 1, 1018, 1, 1018, 1, 1018, 1, 1018, 1, 1018, 3, 1004, 21, 22, 4, 1004, 1004, 1004, 6, 1090, 5, 1008, 5, 1008, 5, 1008, 5, 1008, 5, 1008, 5, 1008, 5, 1008, 5, 1008, 1, 1018, 1, 1018, 1, 1018, 1, 1018, 1, 1018, 1, 1018, 1, 1018, 1, 1018, 3, 1004, 21, 22, 4, 1004, 1004, 1004, 6, 1090, 5, 1008, 5, 1008, 5, 1008, 5, 1008, 5, 1008, 5, 1008, 5, 1008, 5, 1008, 1, 1018, 1, 1018, 1, 1018, 1, 1018, 1, 1018, 1, 1018, 1, 1018, 1, 1018, 3, 1004, 21, 22, 4, 1004, 1004, 1004, 6, 1090, 5, 1008, 5, 1008, 5, 1008, 5, 1008, 5, 1008, 5, 1008, 5, 1008, 5, 1008, 1, 1018, 1, 1018, 1, 1018, 1, 1018, 1, 1018, 1, 1018, 1, 1018, 1, 1018] = 170) ty_2 (rfl : classes[2]? = some ("SensorHub$Hub", T_2, 11)) tyok_2 (fun j hj => by rcases (show j = 0 ∨ j = 1 ∨ j = 2 ∨ j = 3 ∨ j = 4 ∨ j = 5 ∨ j = 6 ∨ j = 7 ∨ j = 8 ∨ j = 9 ∨ j = 10 by omega) with rfl | rfl | rfl | rfl | rfl | rfl | rfl | rfl | rfl | rfl | rfl <;> rfl) (gw_I 336 (by decide +kernel) rfl) (gw_I 94 (by decide +kernel) rfl) (gw_I 71 (by decide +kernel) rfl) (hσ4 (v0 + 170) (by omega)) ⟨Nat.le_of_ble_eq_true rfl, Nat.le_of_ble_eq_true rfl⟩ d_His_init_24 ?_
  refine g_dup F.chg d_His_init_27 rfl ?_
  refine g_callIL (M := LHub) F hO (rfl : List.length [2, 244, 3, 1004, 21, 22, 4, 1004, 1004, 1004, 6, 1090, 5, 1008, 5, 1008, 5, 1008, 5, 1008, 5, 1008, 5, 1008, 5, 1008, 5, 1008, 1, 1018, 1, 1018, 1, 1018, 1, 1018, 1, 1018, 1, 1018, 1, 1018, 1, 1018, 3, 1004, 21, 22, 4, 1004, 1004, 1004, 6, 1090, 5, 1008, 5, 1008, 5, 1008, 5, 1008, 5, 1008, 5, 1008, 5, 1008, 5, 1008, 1, 1018, 1, 1018, 1, 1018, 1, 1018, 1, 1018, 1, 1018, 1, 1018, 1, 1018, 3, 1004, 21, 22, 4, 1004, 1004, 1004, 6, 1090, 5, 1008, 5, 1008, 5, 1008, 5, 1008, 5, 1008, 5, 1008, 5, 1008, 5, 1008, 1, 1018, 1, 1018, 1, 1018, 1, 1018, 1, 1018, 1, 1018, 1, 1018, 1, 1018, 3, 1004, 21, 22, 4, 1004, 1004, 1004, 6, 1090, 5, 1008, 5, 1008, 5, 1008, 5, 1008, 5, 1008, 5, 1008, 5, 1008, 5, 1008, 1, 1018, 1, 1018, 1, 1018, 1, 1018, 1, 1018, 1, 1018, 1, 1018, 1, 1018] = 170) (by decide) (c_Hub_init l (v0 + 170) (by rw [insL_at (by decide)]; rfl) σ4 σ5 (fun v hv => hσ4 v (by omega)) hc4) ci_1_17 (Nat.le_of_ble_eq_true rfl) ⟨Nat.le_of_ble_eq_true rfl, Nat.le_of_ble_eq_true rfl⟩ ⟨Nat.le_of_ble_eq_true rfl, Nat.le_of_ble_eq_true rfl⟩ d_His_init_28 ?_
  refine g_eqL (L' := [2, 244, 3, 1004, 21, 22, 4, 1004, 1004, 1004, 6, 1090, 5, 1008, 5, 1008, 5, 1008, 5, 1008, 5, 1008, 5, 1008, 5, 1008, 5, 1008, 1, 1018, 1, 1018, 1, 1018, 1, 1018, 1, 1018, 1, 1018, 1, 1018, 1, 1018, 3, 1004, 21, 22, 4, 1004, 1004, 1004, 6, 1090, 5, 1008, 5, 1008, 5, 1008, 5, 1008, 5, 1008, 5, 1008, 5, 1008, 5, 1008, 1, 1018, 1, 1018, 1, 1018, 1, 1018, 1, 1018, 1, 1018, 1, 1018, 1, 1018, 3, 1004, 21, 22, 4, 1004, 1004, 1004, 6, 1090, 5, 1008, 5, 1008, 5, 1008, 5, 1008, 5, 1008, 5, 1008, 5, 1008, 5, 1008, 1, 1018, 1, 1018, 1, 1018, 1, 1018, 1, 1018, 1, 1018, 1, 1018, 1, 1018, 3, 1004, 21, 22, 4, 1004, 1004, 1004, 6, 1090, 5, 1008, 5, 1008, 5, 1008, 5, 1008, 5, 1008, 5, 1008, 5, 1008, 5, 1008, 1, 1018, 1, 1018, 1, 1018, 1, 1018, 1, 1018, 1, 1018, 1, 1018, 1, 1018, 3, 1004, 21, 22, 4, 1004, 1004, 1004, 6, 1090, 5, 1008, 5, 1008, 5, 1008, 5, 1008, 5, 1008, 5, 1008, 5, 1008, 5, 1008, 1, 1018, 1, 1018, 1, 1018, 1, 1018, 1, 1018, 1, 1018, 1, 1018, 1, 1018]) (k' := v0 + 212) (ck' := 211) (sk' := 2900) (by decide +kernel) rfl rfl rfl ?_
  refine g_aastL (kz := v0 + 212) (L := [2, 244, 3, 1004, 21, 22, 4, 1004, 1004, 1004, 6, 1090, 5, 1008, 5, 1008, 5, 1008, 5, 1008, 5, 1008, 5, 1008, 5, 1008, 5, 1008, 1, 1018, 1, 1018, 1, 1018, 1, 1018, 1, 1018, 1, 1018, 1, 1018, 1, 1018, 3, 1004, 21, 22, 4, 1004, 1004, 1004, 6, 1090, 5, 1008, 5, 1008, 5, 1008, 5, 1008, 5, 1008, 5, 1008, 5, 1008, 5, 1008, 1, 1018, 1, 1018, 1, 1018, 1, 1018, 1, 1018, 1, 1018, 1, 1018, 1, 1018, 3, 1004, 21, 22, 4, 1004, 1004, 1004, 6, 1090, 5, 1008, 5, 1008, 5, 1008, 5, 1008, 5, 1008, 5, 1008, 5, 1008, 5, 1008, 1, 1018, 1, 1018, 1, 1018, 1, 1018, 1, 1018, 1, 1018, 1, 1018, 1, 1018, 3, 1004, 21, 22, 4, 1004, 1004, 1004, 6, 1090, 5, 1008, 5, 1008, 5, 1008, 5, 1008, 5, 1008, 5, 1008, 5, 1008, 5, 1008, 1, 1018, 1, 1018, 1, 1018, 1, 1018, 1, 1018, 1, 1018, 1, 1018, 1, 1018, 3, 1004, 21, 22, 4, 1004, 1004, 1004, 6, 1090, 5, 1008, 5, 1008, 5, 1008, 5, 1008, 5, 1008, 5, 1008, 5, 1008, 5, 1008, 1, 1018, 1, 1018, 1, 1018, 1, 1018, 1, 1018, 1, 1018, 1, 1018, 1, 1018]) (i := 4) (iv := 1) (iw := 170) F 4 4 5 2 1 42 240 23 23 ("SensorHub$Hub", T_2, 11) rfl rfl (by decide) rfl (by decide) (by decide) rfl (by simp) (by decide) (by decide) rfl d_His_init_31 ?_
  refine g_eqL (L' := [2, 23, 3, 1004, 21, 22, 4, 1004, 1004, 1004, 6, 1090, 5, 1008, 5, 1008, 5, 1008, 5, 1008, 5, 1008, 5, 1008, 5, 1008, 5, 1008, 1, 1018, 1, 1018, 1, 1018, 1, 1018, 1, 1018, 1, 1018, 1, 1018, 1, 1018, 3, 1004, 21, 22, 4, 1004, 1004, 1004, 6, 1090, 5, 1008, 5, 1008, 5, 1008, 5, 1008, 5, 1008, 5, 1008, 5, 1008, 5, 1008, 1, 1018, 1, 1018, 1, 1018, 1, 1018, 1, 1018, 1, 1018, 1, 1018, 1, 1018, 3, 1004, 21, 22, 4, 1004, 1004, 1004, 6, 1090, 5, 1008, 5, 1008, 5, 1008, 5, 1008, 5, 1008, 5, 1008, 5, 1008, 5, 1008, 1, 1018, 1, 1018, 1, 1018, 1, 1018, 1, 1018, 1, 1018, 1, 1018, 1, 1018, 3, 1004, 21, 22, 4, 1004, 1004, 1004, 6, 1090, 5, 1008, 5, 1008, 5, 1008, 5, 1008, 5, 1008, 5, 1008, 5, 1008, 5, 1008, 1, 1018, 1, 1018, 1, 1018, 1, 1018, 1, 1018, 1, 1018, 1, 1018, 1, 1018, 3, 1004, 21, 22, 4, 1004, 1004, 1004, 6, 1090, 5, 1008, 5, 1008, 5, 1008, 5, 1008, 5, 1008, 5, 1008, 5, 1008, 5, 1008, 1, 1018, 1, 1018, 1, 1018, 1, 1018, 1, 1018, 1, 1018, 1, 1018, 1, 1018]) (k' := v0 + 212) (ck' := 211) (sk' := 2900) (by decide +kernel) rfl rfl rfl ?_
  refine g_iinc F.chg (v := 1) (ls' := [(1, .int 5), (0, .ref (b + (v0 + 0)))]) d_His_init_32 0 rfl (by decide) (by decide) rfl ?_
  refine g_goto F.chg (tgt := 14) d_His_init_35 (by decide) ?_
  refine g_iload_n F.chg d_His_init_14 0 rfl ?_
  refine g_iconst F.chg (v := 5) d_His_init_15 (by decide) ?_
  refine g_pt (q := (5 : Int32) ≤ 5) (by decide) (g_icmp_ge F.chg (tgt := 38) d_His_init_16 (by decide) (fun _ => ?_) (fun _ => g_no))
  refine g_eqL (L' := LHis) (k' := v0 + 212) (ck' := 211) (sk' := 2900) (by decide +kernel) rfl rfl rfl ?_
  exact g_vretN F.chg hlk hr d_His_init_38
def y_X_init : MethodName := ⟨"SensorHub", "<init>", "()V"⟩
theorem d_X_init_0 : decode prog_1_method_1_code 0 = .ok (.aload_n 0, 1) := by decide +kernel
theorem d_X_init_1 : decode prog_1_method_1_code 1 = .ok (.invokespecial 1, 3) := by decide +kernel
theorem d_X_init_4 : decode prog_1_method_1_code 4 = .ok (.aload_n 0, 1) := by decide +kernel
theorem d_X_init_5 : decode prog_1_method_1_code 5 = .ok (.new 7, 3) := by decide +kernel
theorem d_X_init_8 : decode prog_1_method_1_code 8 = .ok (.dup, 1) := by decide +kernel
theorem d_X_init_9 : decode prog_1_method_1_code 9 = .ok (.invokespecial 9, 3) := by decide +kernel
theorem d_X_init_12 : decode prog_1_method_1_code 12 = .ok (.putfield 10, 3) := by decide +kernel
theorem d_X_init_15 : decode prog_1_method_1_code 15 = .ok (.aload_n 0, 1) := by decide +kernel
theorem d_X_init_16 : decode prog_1_method_1_code 16 = .ok (.new 7, 3) := by decide +kernel
theorem d_X_init_19 : decode prog_1_method_1_code 19 = .ok (.dup, 1) := by decide +kernel
theorem d_X_init_20 : decode prog_1_method_1_code 20 = .ok (.invokespecial 9, 3) := by decide +kernel
theorem d_X_init_23 : decode prog_1_method_1_code 23 = .ok (.putfield 16, 3) := by decide +kernel
theorem d_X_init_26 : decode prog_1_method_1_code 26 = .ok (.aload_n 0, 1) := by decide +kernel
theorem d_X_init_27 : decode prog_1_method_1_code 27 = .ok (.new 19, 3) := by decide +kernel
theorem d_X_init_30 : decode prog_1_method_1_code 30 = .ok (.dup, 1) := by decide +kernel
theorem d_X_init_31 : decode prog_1_method_1_code 31 = .ok (.invokespecial 21, 3) := by decide +kernel
theorem d_X_init_34 : decode prog_1_method_1_code 34 = .ok (.putfield 22, 3) := by decide +kernel
theorem d_X_init_37 : decode prog_1_method_1_code 37 = .ok (.aload_n 0, 1) := by decide +kernel
theorem d_X_init_38 : decode prog_1_method_1_code 38 = .ok (.new 26, 3) := by decide +kernel
theorem d_X_init_41 : decode prog_1_method_1_code 41 = .ok (.dup, 1) := by decide +kernel
theorem d_X_init_42 : decode prog_1_method_1_code 42 = .ok (.invokespecial 28, 3) := by decide +kernel
theorem d_X_init_45 : decode prog_1_method_1_code 45 = .ok (.putfield 29, 3) := by decide +kernel
theorem d_X_init_48 : decode prog_1_method_1_code 48 = .ok (.return_, 1) := by decide +kernel
theorem ci_7_9 : CI "SensorHub" 9 y_Hub_init prog_4_method_1_code 2 := ⟨Or.inl (gw_I 95 (by decide +kernel) rfl), gw_I 96 (by decide +kernel) rfl, gw_I 71 (by decide +kernel) rfl, gw_I 97 (by decide +kernel) rfl, ⟨by decide +kernel, by decide +kernel⟩, by decide +kernel, rfl⟩
theorem ci_7_21 : CI "SensorHub" 21 y_His_init prog_3_method_1_code 2 := ⟨Or.inl (gw_I 332 (by decide +kernel) rfl), gw_I 333 (by decide +kernel) rfl, gw_I 76 (by decide +kernel) rfl, gw_I 334 (by decide +kernel) rfl, ⟨by decide +kernel, by decide +kernel⟩, by decide +kernel, rfl⟩
theorem ci_7_28 : CI "SensorHub" 28 y_Txt_init prog_8_method_1_code 1 := ⟨Or.inr (List.mem_of_getElem? (i := 5) rfl), gw_I 353 (by decide +kernel) rfl, gw_I 77 (by decide +kernel) rfl, gw_I 354 (by decide +kernel) rfl, ⟨by decide +kernel, by decide +kernel⟩, by decide +kernel, rfl⟩
def LTop : List Nat := [8, 3, 1004, 21, 22, 4, 1004, 1004, 1004, 6, 1090, 5, 1008, 5, 1008, 5, 1008, 5, 1008, 5, 1008, 5, 1008, 5, 1008, 5, 1008, 1, 1018, 1, 1018, 1, 1018, 1, 1018, 1, 1018, 1, 1018, 1, 1018, 1, 1018, 3, 1004, 21, 22, 4, 1004, 1004, 1004, 6, 1090, 5, 1008, 5, 1008, 5, 1008, 5, 1008, 5, 1008, 5, 1008, 5, 1008, 5, 1008, 1, 1018, 1, 1018, 1, 1018, 1, 1018, 1, 1018, 1, 1018, 1, 1018, 1, 1018, 2, 23, 3, 1004, 21, 22, 4, 1004, 1004, 1004, 6, 1090, 5, 1008, 5, 1008, 5, 1008, 5, 1008, 5, 1008, 5, 1008, 5, 1008, 5, 1008, 1, 1018, 1, 1018, 1, 1018, 1, 1018, 1, 1018, 1, 1018, 1, 1018, 1, 1018, 3, 1004, 21, 22, 4, 1004, 1004, 1004, 6, 1090, 5, 1008, 5, 1008, 5, 1008, 5, 1008, 5, 1008, 5, 1008, 5, 1008, 5, 1008, 1, 1018, 1, 1018, 1, 1018, 1, 1018, 1, 1018, 1, 1018, 1, 1018, 1, 1018, 3, 1004, 21, 22, 4, 1004, 1004, 1004, 6, 1090, 5, 1008, 5, 1008, 5, 1008, 5, 1008, 5, 1008, 5, 1008, 5, 1008, 5, 1008, 1, 1018, 1, 1018, 1, 1018, 1, 1018, 1, 1018, 1, 1018, 1, 1018, 1, 1018, 3, 1004, 21, 22, 4, 1004, 1004, 1004, 6, 1090, 5, 1008, 5, 1008, 5, 1008, 5, 1008, 5, 1008, 5, 1008, 5, 1008, 5, 1008, 1, 1018, 1, 1018, 1, 1018, 1, 1018, 1, 1018, 1, 1018, 1, 1018, 1, 1018, 3, 1004, 21, 22, 4, 1004, 1004, 1004, 6, 1090, 5, 1008, 5, 1008, 5, 1008, 5, 1008, 5, 1008, 5, 1008, 5, 1008, 5, 1008, 1, 1018, 1, 1018, 1, 1018, 1, 1018, 1, 1018, 1, 1018, 1, 1018, 1, 1018, 7, 1160]
set_option maxRecDepth 100000 in
set_option maxHeartbeats 4000000 in
theorem c_X_init {D : va_G} {b : Nat} {cA : Nat → ClassId} {kA sh : Nat → Nat} (l : Launch) (v0 : Nat) (hsh : sh v0 = 170) (σ τ1 σ0 σ1 σ2 σ3 σ4 σ5 : Mem) (hσ : ∀ v, v0 < v → σ v = fun _ => 0) (ht1 : ∀ v, v0 + 42 < v → τ1 v = fun _ => 0) (hσ0 : ∀ v, v0 + 84 < v → σ0 v = fun _ => 0) (hσ1 : ∀ v, v0 + 128 < v → σ1 v = fun _ => 0) (hσ2 : ∀ v, v0 + 170 < v → σ2 v = fun _ => 0) (hσ3 : ∀ v, v0 + 212 < v → σ3 v = fun _ => 0) (hσ4 : ∀ v, v0 + 254 < v → σ4 v = fun _ => 0) (hσ5 : ∀ v, v0 + 296 < v → σ5 v = fun _ => 0) (hb0 : f_Hub_clear (v0 + 1) σ = some ((), τ1)) (hb1 : f_Hub_clear (v0 + 43) τ1 = some ((), σ0)) (hc0 : f_Hub_clear (v0 + 85 + 2) σ0 = some ((), σ1)) (hc1 : f_Hub_clear (v0 + 85 + 44) σ1 = some ((), σ2)) (hc2 : f_Hub_clear (v0 + 85 + 86) σ2 = some ((), σ3)) (hc3 : f_Hub_clear (v0 + 85 + 128) σ3 = some ((), σ4)) (hc4 : f_Hub_clear (v0 + 85 + 170) σ4 = some ((), σ5)) : CN (KX D b cA kA sh (v0 + 1)) (KX D b cA kA (insL sh v0 LTop) (v0 + LTop.length)) l y_X_init prog_1_method_1_code 1 5 298 4227 [.ref (b + v0)] σ σ5 := by
  refine CN_of (o := some ((), σ5)) (by decide +kernel) (Nat.le_of_ble_eq_true rfl) (rfl) rfl ?_
  intro p e s m args below meth c F hlk hr hin hO
  have F : FR p s m args c prog_1_method_1_code 1 "SensorHub" (KX D b cA kA sh (v0 + 1)) := F
  refine g_re (sh' := insL sh v0 [170]) (insL_one hsh) rfl rfl rfl ?_
  show G (KX D b cA kA (insL sh v0 [170]) (v0 + 1)) p l e { frames := 5, cells := 298, slots := 4227, locals := 35 * 5 } s m args below meth c 1 0 0 _ 0 [(0, .ref (b + (v0 + 0)))] [] σ _
  refine g_aload_n F.chg d_X_init_0 0 rfl ?_
  refine g_objInit F.chg (gw_I 90 (by decide +kernel) rfl) (gw_I 91 (by decide +kernel) rfl) (gw_I 92 (by decide +kernel) rfl) ⟨Nat.le_of_ble_eq_true rfl, Nat.le_of_ble_eq_true rfl⟩ d_X_init_1 ?_
  refine g_aload_n F.chg d_X_init_4 0 rfl ?_
  refine g_newL F (rfl : List.length [170] = 1) ty_2 (rfl : classes[2]? = some ("SensorHub$Hub", T_2, 11)) tyok_2 (fun j hj => by rcases (show j = 0 ∨ j = 1 ∨ j = 2 ∨ j = 3 ∨ j = 4 ∨ j = 5 ∨ j = 6 ∨ j = 7 ∨ j = 8 ∨ j = 9 ∨ j = 10 by omega) with rfl | rfl | rfl | rfl | rfl | rfl | rfl | rfl | rfl | rfl | rfl <;> rfl) (gw_I 93 (by decide +kernel) rfl) (gw_I 94 (by decide +kernel) rfl) (gw_I 71 (by decide +kernel) rfl) (hσ (v0 + 1) (by omega)) ⟨Nat.le_of_ble_eq_true rfl, Nat.le_of_ble_eq_true rfl⟩ d_X_init_5 ?_
  refine g_dup F.chg d_X_init_8 rfl ?_
  refine g_callIL (M := LHub) F hO (rfl : List.length [170] = 1) (by decide) (c_Hub_init l (v0 + 1) (by rw [insL_at (by decide)]; rfl) σ τ1 (fun v hv => hσ v (by omega)) hb0) ci_7_9 (Nat.le_of_ble_eq_true rfl) ⟨Nat.le_of_ble_eq_true rfl, Nat.le_of_ble_eq_true rfl⟩ ⟨Nat.le_of_ble_eq_true rfl, Nat.le_of_ble_eq_true rfl⟩ d_X_init_9 ?_
  refine g_eqL (L' := [170, 3, 1004, 21, 22, 4, 1004, 1004, 1004, 6, 1090, 5, 1008, 5, 1008, 5, 1008, 5, 1008, 5, 1008, 5, 1008, 5, 1008, 5, 1008, 1, 1018, 1, 1018, 1, 1018, 1, 1018, 1, 1018, 1, 1018, 1, 1018, 1, 1018]) (k' := v0 + 43) (ck' := 42) (sk' := 579) (by decide +kernel) rfl rfl rfl ?_
  refine g_putRL F (i := 0) (w := v0 + 1) (j := 0) 170 171 (.object "SensorHub$Hub") (rfl : classes[7]? = some ("SensorHub", T_7, 4)) (by decide) rfl rfl (gw_I 376 (by decide +kernel) rfl) rfl hin (by decide +kernel) (fun _ => rfl) (fun _ => rfl) (by decide) rfl (by decide) (by decide) (fun _ => rfl) (by decide) d_X_init_12 ?_
  refine g_eqL (L' := [171, 3, 1004, 21, 22, 4, 1004, 1004, 1004, 6, 1090, 5, 1008, 5, 1008, 5, 1008, 5, 1008, 5, 1008, 5, 1008, 5, 1008, 5, 1008, 1, 1018, 1, 1018, 1, 1018, 1, 1018, 1, 1018, 1, 1018, 1, 1018, 1, 1018]) (k' := v0 + 43) (ck' := 42) (sk' := 579) (by decide +kernel) rfl rfl rfl ?_
  refine g_aload_n F.chg d_X_init_15 0 rfl ?_
  refine g_newL F (rfl : List.length [171, 3, 1004, 21, 22, 4, 1004, 1004, 1004, 6, 1090, 5, 1008, 5, 1008, 5, 1008, 5, 1008, 5, 1008, 5, 1008, 5, 1008, 5, 1008, 1, 1018, 1, 1018, 1, 1018, 1, 1018, 1, 1018, 1, 1018, 1, 1018, 1, 1018] = 43) ty_2 (rfl : classes[2]? = some ("SensorHub$Hub", T_2, 11)) tyok_2 (fun j hj => by rcases (show j = 0 ∨ j = 1 ∨ j = 2 ∨ j = 3 ∨ j = 4 ∨ j = 5 ∨ j = 6 ∨ j = 7 ∨ j = 8 ∨ j = 9 ∨ j = 10 by omega) with rfl | rfl | rfl | rfl | rfl | rfl | rfl | rfl | rfl | rfl | rfl <;> rfl) (gw_I 93 (by decide +kernel) rfl) (gw_I 94 (by decide +kernel) rfl) (gw_I 71 (by decide +kernel) rfl) (ht1 (v0 + 43) (by omega)) ⟨Nat.le_of_ble_eq_true rfl, Nat.le_of_ble_eq_true rfl⟩ d_X_init_16 ?_
  refine g_dup F.chg d_X_init_19 rfl ?_
  refine g_callIL (M := LHub) F hO (rfl : List.length [171, 3, 1004, 21, 22, 4, 1004, 1004, 1004, 6, 1090, 5, 1008, 5, 1008, 5, 1008, 5, 1008, 5, 1008, 5, 1008, 5, 1008, 5, 1008, 1, 1018, 1, 1018, 1, 1018, 1, 1018, 1, 1018, 1, 1018, 1, 1018, 1, 1018] = 43) (by decide) (c_Hub_init l (v0 + 43) (by rw [insL_at (by decide)]; rfl) τ1 σ0 (fun v hv => ht1 v (by omega)) hb1) ci_7_9 (Nat.le_of_ble_eq_true rfl) ⟨Nat.le_of_ble_eq_true rfl, Nat.le_of_ble_eq_true rfl⟩ ⟨Nat.le_of_ble_eq_true rfl, Nat.le_of_ble_eq_true rfl⟩ d_X_init_20 ?_
  refine g_eqL (L' := [171, 3, 1004, 21, 22, 4, 1004, 1004, 1004, 6, 1090, 5, 1008, 5, 1008, 5, 1008, 5, 1008, 5, 1008, 5, 1008, 5, 1008, 5, 1008, 1, 1018, 1, 1018, 1, 1018, 1, 1018, 1, 1018, 1, 1018, 1, 1018, 1, 1018, 3, 1004, 21, 22, 4, 1004, 1004, 1004, 6, 1090, 5, 1008, 5, 1008, 5, 1008, 5, 1008, 5, 1008, 5, 1008, 5, 1008, 5, 1008, 1, 1018, 1, 1018, 1, 1018, 1, 1018, 1, 1018, 1, 1018, 1, 1018, 1, 1018]) (k' := v0 + 85) (ck' := 84) (sk' := 1158) (by decide +kernel) rfl rfl rfl ?_
  refine g_putRL F (i := 0) (w := v0 + 43) (j := 1) 171 172 (.object "SensorHub$Hub") (rfl : classes[7]? = some ("SensorHub", T_7, 4)) (by decide) rfl rfl (gw_I 377 (by decide +kernel) rfl) rfl hin (by decide +kernel) (fun _ => rfl) (fun _ => rfl) (by decide) rfl (by decide) (by decide) (fun _ => rfl) (by decide) d_X_init_23 ?_
  refine g_eqL (L' := [172, 3, 1004, 21, 22, 4, 1004, 1004, 1004, 6, 1090, 5, 1008, 5, 1008, 5, 1008, 5, 1008, 5, 1008, 5, 1008, 5, 1008, 5, 1008, 1, 1018, 1, 1018, 1, 1018, 1, 1018, 1, 1018, 1, 1018, 1, 1018, 1, 1018, 3, 1004, 21, 22, 4, 1004, 1004, 1004, 6, 1090, 5, 1008, 5, 1008, 5, 1008, 5, 1008, 5, 1008, 5, 1008, 5, 1008, 5, 1008, 1, 1018, 1, 1018, 1, 1018, 1, 1018, 1, 1018, 1, 1018, 1, 1018, 1, 1018]) (k' := v0 + 85) (ck' := 84) (sk' := 1158) (by decide +kernel) rfl rfl rfl ?_
  refine g_aload_n F.chg d_X_init_26 0 rfl ?_
  refine g_newL F (rfl : List.length [172, 3, 1004, 21, 22, 4, 1004, 1004, 1004, 6, 1090, 5, 1008, 5, 1008, 5, 1008, 5, 1008, 5, 1008, 5, 1008, 5, 1008, 5, 1008, 1, 1018, 1, 1018, 1, 1018, 1, 1018, 1, 1018, 1, 1018, 1, 1018, 1, 1018, 3, 1004, 21, 22, 4, 1004, 1004, 1004, 6, 1090, 5, 1008, 5, 1008, 5, 1008, 5, 1008, 5, 1008, 5, 1008, 5, 1008, 5, 1008, 1, 1018, 1, 1018, 1, 1018, 1, 1018, 1, 1018, 1, 1018, 1, 1018, 1, 1018] = 85) ty_1 (rfl : classes[1]? = some ("SensorHub$History", T_1, 3)) tyok_1 (fun j hj => by rcases (show j = 0 ∨ j = 1 ∨ j = 2 by omega) with rfl | rfl | rfl <;> rfl) (gw_I 330 (by decide +kernel) rfl) (gw_I 331 (by decide +kernel) rfl) (gw_I 76 (by decide +kernel) rfl) (hσ0 (v0 + 85) (by omega)) ⟨Nat.le_of_ble_eq_true rfl, Nat.le_of_ble_eq_true rfl⟩ d_X_init_27 ?_
  refine g_dup F.chg d_X_init_30 rfl ?_
  refine g_callIL (M := LHis) F hO (rfl : List.length [172, 3, 1004, 21, 22, 4, 1004, 1004, 1004, 6, 1090, 5, 1008, 5, 1008, 5, 1008, 5, 1008, 5, 1008, 5, 1008, 5, 1008, 5, 1008, 1, 1018, 1, 1018, 1, 1018, 1, 1018, 1, 1018, 1, 1018, 1, 1018, 1, 1018, 3, 1004, 21, 22, 4, 1004, 1004, 1004, 6, 1090, 5, 1008, 5, 1008, 5, 1008, 5, 1008, 5, 1008, 5, 1008, 5, 1008, 5, 1008, 1, 1018, 1, 1018, 1, 1018, 1, 1018, 1, 1018, 1, 1018, 1, 1018, 1, 1018] = 85) (by decide) (c_His_init l (v0 + 85) (by rw [insL_at (by decide)]; rfl) σ0 σ1 σ2 σ3 σ4 σ5 (fun v hv => hσ0 v (by omega)) (fun v hv => hσ1 v (by omega)) (fun v hv => hσ2 v (by omega)) (fun v hv => hσ3 v (by omega)) (fun v hv => hσ4 v (by omega)) hc0 hc1 hc2 hc3 hc4) ci_7_21 (Nat.le_of_ble_eq_true rfl) ⟨Nat.le_of_ble_eq_true rfl, Nat.le_of_ble_eq_true rfl⟩ ⟨Nat.le_of_ble_eq_true rfl, Nat.le_of_ble_eq_true rfl⟩ d_X_init_31 ?_
  refine g_eqL (L' := [172, 3, 1004, 21, 22, 4, 1004, 1004, 1004, 6, 1090, 5, 1008, 5, 1008, 5, 1008, 5, 1008, 5, 1008, 5, 1008, 5, 1008, 5, 1008, 1, 1018, 1, 1018, 1, 1018, 1, 1018, 1, 1018, 1, 1018, 1, 1018, 1, 1018, 3, 1004, 21, 22, 4, 1004, 1004, 1004, 6, 1090, 5, 1008, 5, 1008, 5, 1008, 5, 1008, 5, 1008, 5, 1008, 5, 1008, 5, 1008, 1, 1018, 1, 1018, 1, 1018, 1, 1018, 1, 1018, 1, 1018, 1, 1018, 1, 1018, 2, 23, 3, 1004, 21, 22, 4, 1004, 1004, 1004, 6, 1090, 5, 1008, 5, 1008, 5, 1008, 5, 1008, 5, 1008, 5, 1008, 5, 1008, 5, 1008, 1, 1018, 1, 1018, 1, 1018, 1, 1018, 1, 1018, 1, 1018, 1, 1018, 1, 1018, 3, 1004, 21, 22, 4, 1004, 1004, 1004, 6, 1090, 5, 1008, 5, 1008, 5, 1008, 5, 1008, 5, 1008, 5, 1008, 5, 1008, 5, 1008, 1, 1018, 1, 1018, 1, 1018, 1, 1018, 1, 1018, 1, 1018, 1, 1018, 1, 1018, 3, 1004, 21, 22, 4, 1004, 1004, 1004, 6, 1090, 5, 1008, 5, 1008, 5, 1008, 5, 1008, 5, 1008, 5, 1008, 5, 1008, 5, 1008, 1, 1018, 1, 1018, 1, 1018, 1, 1018, 1, 1018, 1, 1018, 1, 1018, 1, 1018, 3, 1004, 21, 22, 4, 1004, 1004, 1004, 6, 1090, 5, 1008, 5, 1008, 5, 1008, 5, 1008, 5, 1008, 5, 1008, 5, 1008, 5, 1008, 1, 1018, 1, 1018, 1, 1018, 1, 1018, 1, 1018, 1, 1018, 1, 1018, 1, 1018, 3, 1004, 21, 22, 4, 1004, 1004, 1004, 6, 1090, 5, 1008, 5, 1008, 5, 1008, 5, 1008, 5, 1008, 5, 1008, 5, 1008, 5, 1008, 1, 1018, 1, 1018, 1, 1018, 1, 1018, 1, 1018, 1, 1018, 1, 1018, 1, 1018]) (k' := v0 + 297) (ck' := 296) (sk' := 4061) (by decide +kernel) rfl rfl rfl ?_
  refine g_putRL F (i := 0) (w := v0 + 85) (j := 2) 172 173 (.object "SensorHub$History") (rfl : classes[7]? = some ("SensorHub", T_7, 4)) (by decide) rfl rfl (gw_I 378 (by decide +kernel) rfl) rfl hin (by decide +kernel) (fun _ => rfl) (fun _ => rfl) (by decide) rfl (by decide) (by decide) (fun _ => rfl) (by decide) d_X_init_34 ?_
  refine g_eqL (L' := [173, 3, 1004, 21, 22, 4, 1004, 1004, 1004, 6, 1090, 5, 1008, 5, 1008, 5, 1008, 5, 1008, 5, 1008, 5, 1008, 5, 1008, 5, 1008, 1, 1018, 1, 1018, 1, 1018, 1, 1018, 1, 1018, 1, 1018, 1, 1018, 1, 1018, 3, 1004, 21, 22, 4, 1004, 1004, 1004, 6, 1090, 5, 1008, 5, 1008, 5, 1008, 5, 1008, 5, 1008, 5, 1008, 5, 1008, 5, 1008, 1, 1018, 1, 1018, 1, 1018, 1, 1018, 1, 1018, 1, 1018, 1, 1018, 1, 1018, 2, 23, 3, 1004, 21, 22, 4, 1004, 1004, 1004, 6, 1090, 5, 1008, 5, 1008, 5, 1008, 5, 1008, 5, 1008, 5, 1008, 5, 1008, 5, 1008, 1, 1018, 1, 1018, 1, 1018, 1, 1018, 1, 1018, 1, 1018, 1, 1018, 1, 1018, 3, 1004, 21, 22, 4, 1004, 1004, 1004, 6, 1090, 5, 1008, 5, 1008, 5, 1008, 5, 1008, 5, 1008, 5, 1008, 5, 1008, 5, 1008, 1, 1018, 1, 1018, 1, 1018, 1, 1018, 1, 1018, 1, 1018, 1, 1018, 1, 1018, 3, 1004, 21, 22, 4, 1004, 1004, 1004, 6, 1090, 5, 1008, 5, 1008, 5, 1008, 5, 1008, 5, 1008, 5, 1008, 5, 1008, 5, 1008, 1, 1018, 1, 1018, 1, 1018, 1, 1018, 1, 1018, 1, 1018, 1, 1018, 1, 1018, 3, 1004, 21, 22, 4, 1004, 1004, 1004, 6, 1090, 5, 1008, 5, 1008, 5, 1008, 5, 1008, 5, 1008, 5, 1008, 5, 1008, 5, 1008, 1, 1018, 1, 1018, 1, 1018, 1, 1018, 1, 1018, 1, 1018, 1, 1018, 1, 1018, 3, 1004, 21, 22, 4, 1004, 1004, 1004, 6, 1090, 5, 1008, 5, 1008, 5, 1008, 5, 1008, 5, 1008, 5, 1008, 5, 1008, 5, 1008, 1, 1018, 1, 1018, 1, 1018, 1, 1018, 1, 1018, 1, 1018, 1, 1018, 1, 1018]) (k' := v0 + 297) (ck' := 296) (sk' := 4061) (by decide +kernel) rfl rfl rfl ?_
  refine g_aload_n F.chg d_X_init_37 0 rfl ?_
  refine g_newL F (rfl : List.length [173, 3, 1004, 21, 22, 4, 1004, 1004, 1004, 6, 1090, 5, 1008, 5, 1008, 5, 1008, 5, 1008, 5, 1008, 5, 1008, 5, 1008, 5, 1008, 1, 1018, 1, 1018, 1, 1018, 1, 1018, 1, 1018, 1, 1018, 1, 1018, 1, 1018, 3, 1004, 21, 22, 4, 1004, 1004, 1004, 6, 1090, 5, 1008, 5, 1008, 5, 1008, 5, 1008, 5, 1008, 5, 1008, 5, 1008, 5, 1008, 1, 1018, 1, 1018, 1, 1018, 1, 1018, 1, 1018, 1, 1018, 1, 1018, 1, 1018, 2, 23, 3, 1004, 21, 22, 4, 1004, 1004, 1004, 6, 1090, 5, 1008, 5, 1008, 5, 1008, 5, 1008, 5, 1008, 5, 1008, 5, 1008, 5, 1008, 1, 1018, 1, 1018, 1, 1018, 1, 1018, 1, 1018, 1, 1018, 1, 1018, 1, 1018, 3, 1004, 21, 22, 4, 1004, 1004, 1004, 6, 1090, 5, 1008, 5, 1008, 5, 1008, 5, 1008, 5, 1008, 5, 1008, 5, 1008, 5, 1008, 1, 1018, 1, 1018, 1, 1018, 1, 1018, 1, 1018, 1, 1018, 1, 1018, 1, 1018, 3, 1004, 21, 22, 4, 1004, 1004, 1004, 6, 1090, 5, 1008, 5, 1008, 5, 1008, 5, 1008, 5, 1008, 5, 1008, 5, 1008, 5, 1008, 1, 1018, 1, 1018, 1, 1018, 1, 1018, 1, 1018, 1, 1018, 1, 1018, 1, 1018, 3, 1004, 21, 22, 4, 1004, 1004, 1004, 6, 1090, 5, 1008, 5, 1008, 5, 1008, 5, 1008, 5, 1008, 5, 1008, 5, 1008, 5, 1008, 1, 1018, 1, 1018, 1, 1018, 1, 1018, 1, 1018, 1, 1018, 1, 1018, 1, 1018, 3, 1004, 21, 22, 4, 1004, 1004, 1004, 6, 1090, 5, 1008, 5, 1008, 5, 1008, 5, 1008, 5, 1008, 5, 1008, 5, 1008, 5, 1008, 1, 1018, 1, 1018, 1, 1018, 1, 1018, 1, 1018, 1, 1018, 1, 1018, 1, 1018] = 297) ty_6 (rfl : classes[6]? = some ("SensorHub$Text", T_6, 6)) tyok_6 (fun j hj => by rcases (show j = 0 ∨ j = 1 ∨ j = 2 ∨ j = 3 ∨ j = 4 ∨ j = 5 by omega) with rfl | rfl | rfl | rfl | rfl | rfl <;> rfl) (gw_I 350 (by decide +kernel) rfl) (gw_I 351 (by decide +kernel) rfl) (gw_I 77 (by decide +kernel) rfl) (hσ5 (v0 + 297) (by omega)) ⟨Nat.le_of_ble_eq_true rfl, Nat.le_of_ble_eq_true rfl⟩ d_X_init_38 ?_
  refine g_dup F.chg d_X_init_41 rfl ?_
  refine g_callIL (M := LTxt) F hO (rfl : List.length [173, 3, 1004, 21, 22, 4, 1004, 1004, 1004, 6, 1090, 5, 1008, 5, 1008, 5, 1008, 5, 1008, 5, 1008, 5, 1008, 5, 1008, 5, 1008, 1, 1018, 1, 1018, 1, 1018, 1, 1018, 1, 1018, 1, 1018, 1, 1018, 1, 1018, 3, 1004, 21, 22, 4, 1004, 1004, 1004, 6, 1090, 5, 1008, 5, 1008, 5, 1008, 5, 1008, 5, 1008, 5, 1008, 5, 1008, 5, 1008, 1, 1018, 1, 1018, 1, 1018, 1, 1018, 1, 1018, 1, 1018, 1, 1018, 1, 1018, 2, 23, 3, 1004, 21, 22, 4, 1004, 1004, 1004, 6, 1090, 5, 1008, 5, 1008, 5, 1008, 5, 1008, 5, 1008, 5, 1008, 5, 1008, 5, 1008, 1, 1018, 1, 1018, 1, 1018, 1, 1018, 1, 1018, 1, 1018, 1, 1018, 1, 1018, 3, 1004, 21, 22, 4, 1004, 1004, 1004, 6, 1090, 5, 1008, 5, 1008, 5, 1008, 5, 1008, 5, 1008, 5, 1008, 5, 1008, 5, 1008, 1, 1018, 1, 1018, 1, 1018, 1, 1018, 1, 1018, 1, 1018, 1, 1018, 1, 1018, 3, 1004, 21, 22, 4, 1004, 1004, 1004, 6, 1090, 5, 1008, 5, 1008, 5, 1008, 5, 1008, 5, 1008, 5, 1008, 5, 1008, 5, 1008, 1, 1018, 1, 1018, 1, 1018, 1, 1018, 1, 1018, 1, 1018, 1, 1018, 1, 1018, 3, 1004, 21, 22, 4, 1004, 1004, 1004, 6, 1090, 5, 1008, 5, 1008, 5, 1008, 5, 1008, 5, 1008, 5, 1008, 5, 1008, 5, 1008, 1, 1018, 1, 1018, 1, 1018, 1, 1018, 1, 1018, 1, 1018, 1, 1018, 1, 1018, 3, 1004, 21, 22, 4, 1004, 1004, 1004, 6, 1090, 5, 1008, 5, 1008, 5, 1008, 5, 1008, 5, 1008, 5, 1008, 5, 1008, 5, 1008, 1, 1018, 1, 1018, 1, 1018, 1, 1018, 1, 1018, 1, 1018, 1, 1018, 1, 1018] = 297) (by decide) (c_Txt_init l (v0 + 297) (by rw [insL_at (by decide)]; rfl) σ5 (fun v hv => hσ5 v (by omega))) ci_7_28 (Nat.le_of_ble_eq_true rfl) ⟨Nat.le_of_ble_eq_true rfl, Nat.le_of_ble_eq_true rfl⟩ ⟨Nat.le_of_ble_eq_true rfl, Nat.le_of_ble_eq_true rfl⟩ d_X_init_42 ?_
  refine g_eqL (L' := [173, 3, 1004, 21, 22, 4, 1004, 1004, 1004, 6, 1090, 5, 1008, 5, 1008, 5, 1008, 5, 1008, 5, 1008, 5, 1008, 5, 1008, 5, 1008, 1, 1018, 1, 1018, 1, 1018, 1, 1018, 1, 1018, 1, 1018, 1, 1018, 1, 1018, 3, 1004, 21, 22, 4, 1004, 1004, 1004, 6, 1090, 5, 1008, 5, 1008, 5, 1008, 5, 1008, 5, 1008, 5, 1008, 5, 1008, 5, 1008, 1, 1018, 1, 1018, 1, 1018, 1, 1018, 1, 1018, 1, 1018, 1, 1018, 1, 1018, 2, 23, 3, 1004, 21, 22, 4, 1004, 1004, 1004, 6, 1090, 5, 1008, 5, 1008, 5, 1008, 5, 1008, 5, 1008, 5, 1008, 5, 1008, 5, 1008, 1, 1018, 1, 1018, 1, 1018, 1, 1018, 1, 1018, 1, 1018, 1, 1018, 1, 1018, 3, 1004, 21, 22, 4, 1004, 1004, 1004, 6, 1090, 5, 1008, 5, 1008, 5, 1008, 5, 1008, 5, 1008, 5, 1008, 5, 1008, 5, 1008, 1, 1018, 1, 1018, 1, 1018, 1, 1018, 1, 1018, 1, 1018, 1, 1018, 1, 1018, 3, 1004, 21, 22, 4, 1004, 1004, 1004, 6, 1090, 5, 1008, 5, 1008, 5, 1008, 5, 1008, 5, 1008, 5, 1008, 5, 1008, 5, 1008, 1, 1018, 1, 1018, 1, 1018, 1, 1018, 1, 1018, 1, 1018, 1, 1018, 1, 1018, 3, 1004, 21, 22, 4, 1004, 1004, 1004, 6, 1090, 5, 1008, 5, 1008, 5, 1008, 5, 1008, 5, 1008, 5, 1008, 5, 1008, 5, 1008, 1, 1018, 1, 1018, 1, 1018, 1, 1018, 1, 1018, 1, 1018, 1, 1018, 1, 1018, 3, 1004, 21, 22, 4, 1004, 1004, 1004, 6, 1090, 5, 1008, 5, 1008, 5, 1008, 5, 1008, 5, 1008, 5, 1008, 5, 1008, 5, 1008, 1, 1018, 1, 1018, 1, 1018, 1, 1018, 1, 1018, 1, 1018, 1, 1018, 1, 1018, 7, 1160]) (k' := v0 + 299) (ck' := 298) (sk' := 4227) (by decide +kernel) rfl rfl rfl ?_
  refine g_putRL F (i := 0) (w := v0 + 297) (j := 3) 173 8 (.object "SensorHub$Text") (rfl : classes[7]? = some ("SensorHub", T_7, 4)) (by decide) rfl rfl (gw_I 379 (by decide +kernel) rfl) rfl hin (by decide +kernel) (fun _ => rfl) (fun _ => rfl) (by decide) rfl (by decide) (by decide) (fun _ => rfl) (by decide) d_X_init_45 ?_
  refine g_eqL (L' := [8, 3, 1004, 21, 22, 4, 1004, 1004, 1004, 6, 1090, 5, 1008, 5, 1008, 5, 1008, 5, 1008, 5, 1008, 5, 1008, 5, 1008, 5, 1008, 1, 1018, 1, 1018, 1, 1018, 1, 1018, 1, 1018, 1, 1018, 1, 1018, 1, 1018, 3, 1004, 21, 22, 4, 1004, 1004, 1004, 6, 1090, 5, 1008, 5, 1008, 5, 1008, 5, 1008, 5, 1008, 5, 1008, 5, 1008, 5, 1008, 1, 1018, 1, 1018, 1, 1018, 1, 1018, 1, 1018, 1, 1018, 1, 1018, 1, 1018, 2, 23, 3, 1004, 21, 22, 4, 1004, 1004, 1004, 6, 1090, 5, 1008, 5, 1008, 5, 1008, 5, 1008, 5, 1008, 5, 1008, 5, 1008, 5, 1008, 1, 1018, 1, 1018, 1, 1018, 1, 1018, 1, 1018, 1, 1018, 1, 1018, 1, 1018, 3, 1004, 21, 22, 4, 1004, 1004, 1004, 6, 1090, 5, 1008, 5, 1008, 5, 1008, 5, 1008, 5, 1008, 5, 1008, 5, 1008, 5, 1008, 1, 1018, 1, 1018, 1, 1018, 1, 1018, 1, 1018, 1, 1018, 1, 1018, 1, 1018, 3, 1004, 21, 22, 4, 1004, 1004, 1004, 6, 1090, 5, 1008, 5, 1008, 5, 1008, 5, 1008, 5, 1008, 5, 1008, 5, 1008, 5, 1008, 1, 1018, 1, 1018, 1, 1018, 1, 1018, 1, 1018, 1, 1018, 1, 1018, 1, 1018, 3, 1004, 21, 22, 4, 1004, 1004, 1004, 6, 1090, 5, 1008, 5, 1008, 5, 1008, 5, 1008, 5, 1008, 5, 1008, 5, 1008, 5, 1008, 1, 1018, 1, 1018, 1, 1018, 1, 1018, 1, 1018, 1, 1018, 1, 1018, 1, 1018, 3, 1004, 21, 22, 4, 1004, 1004, 1004, 6, 1090, 5, 1008, 5, 1008, 5, 1008, 5, 1008, 5, 1008, 5, 1008, 5, 1008, 5, 1008, 1, 1018, 1, 1018, 1, 1018, 1, 1018, 1, 1018, 1, 1018, 1, 1018, 1, 1018, 7, 1160]) (k' := v0 + 299) (ck' := 298) (sk' := 4227) (by decide +kernel) rfl rfl rfl ?_
  refine g_eqL (L' := LTop) (k' := v0 + 299) (ck' := 298) (sk' := 4227) (by decide +kernel) rfl rfl rfl ?_
  exact g_vretN F.chg hlk hr d_X_init_48
def y_M_init : MethodName := ⟨"SensorHubModel", "<init>", "()V"⟩
theorem d_M_init_0 : decode prog_10_method_1_code 0 = .ok (.aload_n 0, 1) := by decide +kernel
theorem d_M_init_1 : decode prog_10_method_1_code 1 = .ok (.invokespecial 1, 3) := by decide +kernel
theorem d_M_init_4 : decode prog_10_method_1_code 4 = .ok (.aload_n 0, 1) := by decide +kernel
theorem d_M_init_5 : decode prog_10_method_1_code 5 = .ok (.sipush 481, 3) := by decide +kernel
theorem d_M_init_8 : decode prog_10_method_1_code 8 = .ok (.newarray .int, 2) := by decide +kernel
theorem d_M_init_10 : decode prog_10_method_1_code 10 = .ok (.putfield 7, 3) := by decide +kernel
theorem d_M_init_13 : decode prog_10_method_1_code 13 = .ok (.aload_n 0, 1) := by decide +kernel
theorem d_M_init_14 : decode prog_10_method_1_code 14 = .ok (.sipush 2405, 3) := by decide +kernel
theorem d_M_init_17 : decode prog_10_method_1_code 17 = .ok (.newarray .int, 2) := by decide +kernel
theorem d_M_init_19 : decode prog_10_method_1_code 19 = .ok (.putfield 13, 3) := by decide +kernel
theorem d_M_init_22 : decode prog_10_method_1_code 22 = .ok (.aload_n 0, 1) := by decide +kernel
theorem d_M_init_23 : decode prog_10_method_1_code 23 = .ok (.sipush 160, 3) := by decide +kernel
theorem d_M_init_26 : decode prog_10_method_1_code 26 = .ok (.newarray .int, 2) := by decide +kernel
theorem d_M_init_28 : decode prog_10_method_1_code 28 = .ok (.putfield 16, 3) := by decide +kernel
theorem d_M_init_31 : decode prog_10_method_1_code 31 = .ok (.aload_n 0, 1) := by decide +kernel
theorem d_M_init_32 : decode prog_10_method_1_code 32 = .ok (.sipush 481, 3) := by decide +kernel
theorem d_M_init_35 : decode prog_10_method_1_code 35 = .ok (.newarray .int, 2) := by decide +kernel
theorem d_M_init_37 : decode prog_10_method_1_code 37 = .ok (.putfield 19, 3) := by decide +kernel
theorem d_M_init_40 : decode prog_10_method_1_code 40 = .ok (.aload_n 0, 1) := by decide +kernel
theorem d_M_init_41 : decode prog_10_method_1_code 41 = .ok (.bipush 8, 2) := by decide +kernel
theorem d_M_init_43 : decode prog_10_method_1_code 43 = .ok (.newarray .int, 2) := by decide +kernel
theorem d_M_init_45 : decode prog_10_method_1_code 45 = .ok (.putfield 22, 3) := by decide +kernel
theorem d_M_init_48 : decode prog_10_method_1_code 48 = .ok (.aload_n 0, 1) := by decide +kernel
theorem d_M_init_49 : decode prog_10_method_1_code 49 = .ok (.bipush 8, 2) := by decide +kernel
theorem d_M_init_51 : decode prog_10_method_1_code 51 = .ok (.newarray .int, 2) := by decide +kernel
theorem d_M_init_53 : decode prog_10_method_1_code 53 = .ok (.putfield 25, 3) := by decide +kernel
theorem d_M_init_56 : decode prog_10_method_1_code 56 = .ok (.aload_n 0, 1) := by decide +kernel
theorem d_M_init_57 : decode prog_10_method_1_code 57 = .ok (.bipush 8, 2) := by decide +kernel
theorem d_M_init_59 : decode prog_10_method_1_code 59 = .ok (.newarray .int, 2) := by decide +kernel
theorem d_M_init_61 : decode prog_10_method_1_code 61 = .ok (.putfield 28, 3) := by decide +kernel
theorem d_M_init_64 : decode prog_10_method_1_code 64 = .ok (.aload_n 0, 1) := by decide +kernel
theorem d_M_init_65 : decode prog_10_method_1_code 65 = .ok (.bipush 8, 2) := by decide +kernel
theorem d_M_init_67 : decode prog_10_method_1_code 67 = .ok (.newarray .boolean, 2) := by decide +kernel
theorem d_M_init_69 : decode prog_10_method_1_code 69 = .ok (.putfield 31, 3) := by decide +kernel
theorem d_M_init_72 : decode prog_10_method_1_code 72 = .ok (.aload_n 0, 1) := by decide +kernel
theorem d_M_init_73 : decode prog_10_method_1_code 73 = .ok (.iconst 0, 1) := by decide +kernel
theorem d_M_init_74 : decode prog_10_method_1_code 74 = .ok (.putfield 35, 3) := by decide +kernel
theorem d_M_init_77 : decode prog_10_method_1_code 77 = .ok (.aload_n 0, 1) := by decide +kernel
theorem d_M_init_78 : decode prog_10_method_1_code 78 = .ok (.invokevirtual 39, 3) := by decide +kernel
theorem d_M_init_81 : decode prog_10_method_1_code 81 = .ok (.return_, 1) := by decide +kernel
def LMod : List Nat := [9, 1481, 3405, 1160, 1481, 1008, 1008, 1008, 20]
theorem modelOK_L {D : va_G} {b : Nat} {cA : Nat → ClassId} {kA sh : Nat → Nat} {v0 k : Nat} (h : ∀ j, j < 9 → sh (v0 + j) = LMod.getD j 0) : ModelOK (KX D b cA kA sh k) v0 := by
  exact ⟨h 0 (by decide), h 1 (by decide), h 2 (by decide), h 3 (by decide), h 4 (by decide), h 5 (by decide), h 6 (by decide), h 7 (by decide), h 8 (by decide)⟩
set_option maxRecDepth 100000 in
set_option maxHeartbeats 4000000 in
theorem c_M_init {D : va_G} {b : Nat} {cA : Nat → ClassId} {kA sh : Nat → Nat} (l : Launch) (v0 : Nat) (hsh : sh v0 = 180) (σ σ2 : Mem) (hσ : ∀ v, v0 < v → σ v = fun _ => 0) (hc : f_M_empty v0 (wr σ v0 0 0) = some ((), σ2)) : CN (KX D b cA kA sh (v0 + 1)) (KX D b cA kA (insL sh v0 LMod) (v0 + LMod.length)) l y_M_init prog_10_method_1_code 1 1 8 3559 [.ref (b + v0)] σ σ2 := by
  refine CN_of (o := bd (f_M_empty v0 (wr σ v0 0 0)) (fun _ τ => some ((), τ))) (by decide +kernel) (Nat.le_of_ble_eq_true rfl) (by rw [hc]; rfl) rfl ?_
  intro p e s m args below meth c F hlk hr hin hO
  have F : FR p s m args c prog_10_method_1_code 1 "SensorHubModel" (KX D b cA kA sh (v0 + 1)) := F
  refine g_re (sh' := insL sh v0 [180]) (insL_one hsh) rfl rfl rfl ?_
  show G (KX D b cA kA (insL sh v0 [180]) (v0 + 1)) p l e { frames := 1, cells := 8, slots := 3559, locals := 35 * 1 } s m args below meth c 1 0 0 _ 0 [(0, .ref (b + (v0 + 0)))] [] σ _
  refine g_aload_n F.chg d_M_init_0 0 rfl ?_
  refine g_objInit F.chg (gw_I 887 (by decide +kernel) rfl) (gw_I 91 (by decide +kernel) rfl) (gw_I 92 (by decide +kernel) rfl) ⟨Nat.le_of_ble_eq_true rfl, Nat.le_of_ble_eq_true rfl⟩ d_M_init_1 ?_
  refine g_aload_n F.chg d_M_init_4 0 rfl ?_
  refine g_sipush F.chg (v := 481) d_M_init_5 (by decide) ?_
  refine g_newaIL F (rfl : List.length [180] = 1) (N := 481) (gw_I 124 (by decide +kernel) rfl) (by decide) (by decide) (hσ (v0 + 1) (by omega)) ⟨Nat.le_of_ble_eq_true rfl, Nat.le_of_ble_eq_true rfl⟩ d_M_init_8 ?_
  refine g_eqL (L' := [180, 1481]) (k' := v0 + 2) (ck' := 1) (sk' := 481) (by decide +kernel) rfl rfl rfl ?_
  refine g_putRL F (i := 0) (w := v0 + 1) (j := 1) 180 181 (.array .int) (rfl : classes[8]? = some ("SensorHubModel", T_8, 16)) (by decide) rfl rfl (gw_I 893 (by decide +kernel) rfl) rfl hin (by decide +kernel) (fun _ => rfl) (fun _ => rfl) (by decide) rfl (by decide) (by decide) (fun _ => rfl) (by decide) d_M_init_10 ?_
  refine g_eqL (L' := [181, 1481]) (k' := v0 + 2) (ck' := 1) (sk' := 481) (by decide +kernel) rfl rfl rfl ?_
  refine g_aload_n F.chg d_M_init_13 0 rfl ?_
  refine g_sipush F.chg (v := 2405) d_M_init_14 (by decide) ?_
  refine g_newaIL F (rfl : List.length [181, 1481] = 2) (N := 2405) (gw_I 124 (by decide +kernel) rfl) (by decide) (by decide) (hσ (v0 + 2) (by omega)) ⟨Nat.le_of_ble_eq_true rfl, Nat.le_of_ble_eq_true rfl⟩ d_M_init_17 ?_
  refine g_eqL (L' := [181, 1481, 3405]) (k' := v0 + 3) (ck' := 2) (sk' := 2886) (by decide +kernel) rfl rfl rfl ?_
  refine g_putRL F (i := 0) (w := v0 + 2) (j := 2) 181 182 (.array .int) (rfl : classes[8]? = some ("SensorHubModel", T_8, 16)) (by decide) rfl rfl (gw_I 894 (by decide +kernel) rfl) rfl hin (by decide +kernel) (fun _ => rfl) (fun _ => rfl) (by decide) rfl (by decide) (by decide) (fun _ => rfl) (by decide) d_M_init_19 ?_
  refine g_eqL (L' := [182, 1481, 3405]) (k' := v0 + 3) (ck' := 2) (sk' := 2886) (by decide +kernel) rfl rfl rfl ?_
  refine g_aload_n F.chg d_M_init_22 0 rfl ?_
  refine g_sipush F.chg (v := 160) d_M_init_23 (by decide) ?_
  refine g_newaIL F (rfl : List.length [182, 1481, 3405] = 3) (N := 160) (gw_I 124 (by decide +kernel) rfl) (by decide) (by decide) (hσ (v0 + 3) (by omega)) ⟨Nat.le_of_ble_eq_true rfl, Nat.le_of_ble_eq_true rfl⟩ d_M_init_26 ?_
  refine g_eqL (L' := [182, 1481, 3405, 1160]) (k' := v0 + 4) (ck' := 3) (sk' := 3046) (by decide +kernel) rfl rfl rfl ?_
  refine g_putRL F (i := 0) (w := v0 + 3) (j := 4) 182 183 (.array .int) (rfl : classes[8]? = some ("SensorHubModel", T_8, 16)) (by decide) rfl rfl (gw_I 896 (by decide +kernel) rfl) rfl hin (by decide +kernel) (fun _ => rfl) (fun _ => rfl) (by decide) rfl (by decide) (by decide) (fun _ => rfl) (by decide) d_M_init_28 ?_
  refine g_eqL (L' := [183, 1481, 3405, 1160]) (k' := v0 + 4) (ck' := 3) (sk' := 3046) (by decide +kernel) rfl rfl rfl ?_
  refine g_aload_n F.chg d_M_init_31 0 rfl ?_
  refine g_sipush F.chg (v := 481) d_M_init_32 (by decide) ?_
  refine g_newaIL F (rfl : List.length [183, 1481, 3405, 1160] = 4) (N := 481) (gw_I 124 (by decide +kernel) rfl) (by decide) (by decide) (hσ (v0 + 4) (by omega)) ⟨Nat.le_of_ble_eq_true rfl, Nat.le_of_ble_eq_true rfl⟩ d_M_init_35 ?_
  refine g_eqL (L' := [183, 1481, 3405, 1160, 1481]) (k' := v0 + 5) (ck' := 4) (sk' := 3527) (by decide +kernel) rfl rfl rfl ?_
  refine g_putRL F (i := 0) (w := v0 + 4) (j := 6) 183 184 (.array .int) (rfl : classes[8]? = some ("SensorHubModel", T_8, 16)) (by decide) rfl rfl (gw_I 898 (by decide +kernel) rfl) rfl hin (by decide +kernel) (fun _ => rfl) (fun _ => rfl) (by decide) rfl (by decide) (by decide) (fun _ => rfl) (by decide) d_M_init_37 ?_
  refine g_eqL (L' := [184, 1481, 3405, 1160, 1481]) (k' := v0 + 5) (ck' := 4) (sk' := 3527) (by decide +kernel) rfl rfl rfl ?_
  refine g_aload_n F.chg d_M_init_40 0 rfl ?_
  refine g_bipush F.chg (v := 8) d_M_init_41 (by decide) ?_
  refine g_newaIL F (rfl : List.length [184, 1481, 3405, 1160, 1481] = 5) (N := 8) (gw_I 124 (by decide +kernel) rfl) (by decide) (by decide) (hσ (v0 + 5) (by omega)) ⟨Nat.le_of_ble_eq_true rfl, Nat.le_of_ble_eq_true rfl⟩ d_M_init_43 ?_
  refine g_eqL (L' := [184, 1481, 3405, 1160, 1481, 1008]) (k' := v0 + 6) (ck' := 5) (sk' := 3535) (by decide +kernel) rfl rfl rfl ?_
  refine g_putRL F (i := 0) (w := v0 + 5) (j := 7) 184 185 (.array .int) (rfl : classes[8]? = some ("SensorHubModel", T_8, 16)) (by decide) rfl rfl (gw_I 899 (by decide +kernel) rfl) rfl hin (by decide +kernel) (fun _ => rfl) (fun _ => rfl) (by decide) rfl (by decide) (by decide) (fun _ => rfl) (by decide) d_M_init_45 ?_
  refine g_eqL (L' := [185, 1481, 3405, 1160, 1481, 1008]) (k' := v0 + 6) (ck' := 5) (sk' := 3535) (by decide +kernel) rfl rfl rfl ?_
  refine g_aload_n F.chg d_M_init_48 0 rfl ?_
  refine g_bipush F.chg (v := 8) d_M_init_49 (by decide) ?_
  refine g_newaIL F (rfl : List.length [185, 1481, 3405, 1160, 1481, 1008] = 6) (N := 8) (gw_I 124 (by decide +kernel) rfl) (by decide) (by decide) (hσ (v0 + 6) (by omega)) ⟨Nat.le_of_ble_eq_true rfl, Nat.le_of_ble_eq_true rfl⟩ d_M_init_51 ?_
  refine g_eqL (L' := [185, 1481, 3405, 1160, 1481, 1008, 1008]) (k' := v0 + 7) (ck' := 6) (sk' := 3543) (by decide +kernel) rfl rfl rfl ?_
  refine g_putRL F (i := 0) (w := v0 + 6) (j := 8) 185 186 (.array .int) (rfl : classes[8]? = some ("SensorHubModel", T_8, 16)) (by decide) rfl rfl (gw_I 900 (by decide +kernel) rfl) rfl hin (by decide +kernel) (fun _ => rfl) (fun _ => rfl) (by decide) rfl (by decide) (by decide) (fun _ => rfl) (by decide) d_M_init_53 ?_
  refine g_eqL (L' := [186, 1481, 3405, 1160, 1481, 1008, 1008]) (k' := v0 + 7) (ck' := 6) (sk' := 3543) (by decide +kernel) rfl rfl rfl ?_
  refine g_aload_n F.chg d_M_init_56 0 rfl ?_
  refine g_bipush F.chg (v := 8) d_M_init_57 (by decide) ?_
  refine g_newaIL F (rfl : List.length [186, 1481, 3405, 1160, 1481, 1008, 1008] = 7) (N := 8) (gw_I 124 (by decide +kernel) rfl) (by decide) (by decide) (hσ (v0 + 7) (by omega)) ⟨Nat.le_of_ble_eq_true rfl, Nat.le_of_ble_eq_true rfl⟩ d_M_init_59 ?_
  refine g_eqL (L' := [186, 1481, 3405, 1160, 1481, 1008, 1008, 1008]) (k' := v0 + 8) (ck' := 7) (sk' := 3551) (by decide +kernel) rfl rfl rfl ?_
  refine g_putRL F (i := 0) (w := v0 + 7) (j := 9) 186 187 (.array .int) (rfl : classes[8]? = some ("SensorHubModel", T_8, 16)) (by decide) rfl rfl (gw_I 901 (by decide +kernel) rfl) rfl hin (by decide +kernel) (fun _ => rfl) (fun _ => rfl) (by decide) rfl (by decide) (by decide) (fun _ => rfl) (by decide) d_M_init_61 ?_
  refine g_eqL (L' := [187, 1481, 3405, 1160, 1481, 1008, 1008, 1008]) (k' := v0 + 8) (ck' := 7) (sk' := 3551) (by decide +kernel) rfl rfl rfl ?_
  refine g_aload_n F.chg d_M_init_64 0 rfl ?_
  refine g_bipush F.chg (v := 8) d_M_init_65 (by decide) ?_
  refine g_newaZL F (rfl : List.length [187, 1481, 3405, 1160, 1481, 1008, 1008, 1008] = 8) (gw_I 941 (by decide +kernel) rfl) (hσ (v0 + 8) (by omega)) ⟨Nat.le_of_ble_eq_true rfl, Nat.le_of_ble_eq_true rfl⟩ d_M_init_67 ?_
  refine g_eqL (L' := [187, 1481, 3405, 1160, 1481, 1008, 1008, 1008, 20]) (k' := v0 + 9) (ck' := 8) (sk' := 3559) (by decide +kernel) rfl rfl rfl ?_
  refine g_putRL F (i := 0) (w := v0 + 8) (j := 10) 187 9 (.array .boolean) (rfl : classes[8]? = some ("SensorHubModel", T_8, 16)) (by decide) rfl rfl (gw_I 902 (by decide +kernel) rfl) rfl hin (by decide +kernel) (fun _ => rfl) (fun _ => rfl) (by decide) rfl (by decide) (by decide) (fun _ => rfl) (by decide) d_M_init_69 ?_
  refine g_eqL (L' := [9, 1481, 3405, 1160, 1481, 1008, 1008, 1008, 20]) (k' := v0 + 9) (ck' := 8) (sk' := 3559) (by decide +kernel) rfl rfl rfl ?_
  refine g_eqL (L' := LMod) (k' := v0 + 9) (ck' := 8) (sk' := 3559) (by decide +kernel) rfl rfl rfl ?_
  refine g_aload_n F.chg d_M_init_72 0 rfl ?_
  refine g_iconst F.chg (v := 0) d_M_init_73 (by decide) ?_
  refine g_putI F.chg fw_8_35 (v := v0 + 0) (by show insL _ _ _ (v0 + 0) = _; rw [insL_at (by decide)]; rfl) rfl d_M_init_74 ?_
  refine g_aload_n F.chg d_M_init_77 0 rfl ?_
  refine g_callV F.chg (dp := 0) (ci := 8) (v := v0 + 0) (As := []) (c_M_empty l v0 (modelOK_L (fun j hj => insL_at hj)) _) cv_8_39 (by show insL _ _ _ (v0 + 0) = _; rw [insL_at (by decide)]; rfl) rfl rfl rfl (Nat.le_of_ble_eq_true rfl) ⟨Nat.le_of_ble_eq_true rfl, Nat.le_of_ble_eq_true rfl⟩ ⟨Nat.le_of_ble_eq_true rfl, Nat.le_of_ble_eq_true rfl⟩ d_M_init_78 (fun _ τ _ => ?_)
  exact g_vretN F.chg hlk hr d_M_init_81
