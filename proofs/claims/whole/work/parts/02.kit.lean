/-! The environment, the contract of a method that makes nothing, and the rules by which a walk uses them. -/
abbrev jE : Type := va_G × ClassId × ClassId × (Nat → Nat) × (Nat → Nat)
abbrev jTy (E : jE) : List (ClassId × FieldType) := [(E.2.1, .byte), (E.2.2.1, .int)]
def jNest : List (String × Nat × MethodName) := [(RX10, 9, yX8_init), (RX10, 18, yX0_init), (RX9, 11, yX2_init), (RX10, 66, yX2_init), (RX0, 28, yX10_isSmall), (RX4, 75, yX10_isSmall), (RX4, 103, yX10_isLetter), (RX4, 79, yX10_isVowel), (RX4, 106, yX10_smallOf), (RX5, 73, yX10_isSmall)]
def jKeys : List Int32 := [83, 84, 75, 80, 87, 72, 82, 65, 79, 42, 69, 85, 70, 82, 80, 66, 76, 71, 84, 83, 68, 90]
def jK (E : jE) (A : Nat → Prop) (U : State) : Prop := va_K E.1 vwCl (jTy E) U ∧ (∀ q ∈ jNest, va_Nw (.methodLinkNest q.1 q.2.1 q.2.2 "StenoRoom") U) ∧ vk_S 1 [22] [jKeys] E.2.2.2.1 E.2.2.2.2 A U U.heap ∧ vk_R RX2 19 "STKPWHRAO*EUFRPBLGTSDZ" (E.2.2.2.1 0) U ∧ va_Z "java/lang/String" "COMPACT_STRINGS" "Z" (.int 1) A U U.heap ∧ va_Zq "jdk/internal/util/Preconditions" "SIOOBE_FORMATTER" "Ljava/util/function/BiFunction;" A U U.heap
theorem jK.go {E : jE} {A : Nat → Prop} {s U : State} {H : Heap} {locs : List Loc} {wc : va_W} (hK : jK E A s) (hS : va_S A s.heap H locs) (hF : ∀ q, va_A wc H.size q → A q) (hU : U.heap = H) (hW : s.WarmedH U.vm) : jK E (va_A wc H.size) U := by
  obtain ⟨h1, h2, h3, h4, h5, h6⟩ := hK
  rw [jK, hU]
  exact ⟨va_K.moved hW.alike h1, fun q hq => va_Nw.warmM hW (h2 q hq), vk_S.narrow (vk_S.moved hW.alike (vk_S.kept h3 hS.2.1)) hF, vk_R.warm hW h4, va_Z.narrow (va_Z.moved hW.alike (va_Z.kept h5 hS.2.1)) hF, va_Zq.narrow (va_Zq.moved hW.alike (va_Zq.kept h6 hS.2.1)) hF⟩
abbrev jPc (E : jE) (As : List Value) (w0 : va_W) (sz : Nat) : Array Value → State → Prop := va_Pc As (fun U => U.heap.size = sz ∧ va_P E.1 vwCl w0 U.heap ∧ va_D (fun _ => True) w0 ∧ jK E (va_A w0 sz) U)
abbrev jB (E : jE) (w1 : va_W) (A : Nat → Prop) : Unit → State → Prop := fun _ t => va_P E.1 vwCl w1 t.heap ∧ va_D A w1
/-- from the cells w0 the method comes back with r and the cells w1, and makes nothing -/
def jMi (l : Launch) (y : MethodName) (ws : List Cond) (rm : Room) (E : jE) (As : List Value) (w0 : va_W) (r : Int32) (w1 : va_W) : Prop := ∀ sz : Nat, Met l y ws rm (jPc E As w0 sz) (va_Qi (fun (r' : Int32) (_ : Unit) => r' = r) (jB E w1 (va_A w0 sz)) (va_A w0 sz)) 0 0 (va_A w0 sz)
def jMv (l : Launch) (y : MethodName) (ws : List Cond) (rm : Room) (E : jE) (As : List Value) (w0 : va_W) (w1 : va_W) : Prop := ∀ sz : Nat, Met l y ws rm (jPc E As w0 sz) (va_Qv (fun (_ : Unit) => True) (jB E w1 (va_A w0 sz)) (va_A w0 sz)) 0 0 (va_A w0 sz)
theorem jPc.blind {E : jE} {As : List Value} {w0 : va_W} {sz : Nat} : FrameBlind (jPc E As w0 sz) := by
  intro a U g mk h
  obtain ⟨h0, h1, h2, h3, hk⟩ := h
  exact ⟨h0, h1, h2, h3, va_K.moved (u := U) (U := U.calling g mk a) (Vm.Alike.refl U.vm) hk.1, fun q hq => va_Nw.same rfl (u := U) (U := U.calling g mk a) rfl (hk.2.1 q hq), vk_S.moved (u := U) (U := U.calling g mk a) (Vm.Alike.refl U.vm) hk.2.2.1, vk_R.same (u := U) (U := U.calling g mk a) rfl hk.2.2.2.1, va_Z.moved (u := U) (U := U.calling g mk a) (Vm.Alike.refl U.vm) hk.2.2.2.2.1, va_Zq.moved (u := U) (U := U.calling g mk a) (Vm.Alike.refl U.vm) hk.2.2.2.2.2⟩
abbrev jQi (below : List Frame) (E : jE) (w1 : va_W) (r : Int32) (A : Nat → Prop) (args : Array Value) (s : State) : State → Prop := MQ below (va_Qi (fun (r' : Int32) (_ : Unit) => r' = r) (jB E w1 A) A) args s 0 0 A
abbrev jQv (below : List Frame) (E : jE) (w1 : va_W) (A : Nat → Prop) (args : Array Value) (s : State) : State → Prop := MQ below (va_Qv (fun (_ : Unit) => True) (jB E w1 A) A) args s 0 0 A
theorem jMi.begin {l : Launch} {y : MethodName} {ws ws' : List Cond} {rm : Room} {E : jE} {As : List Value} {w0 w1 : va_W} {r : Int32} {cc : ByteArray} {maxL : Nat} {ret : Option FieldType} (hy : plainName y.cls = true) (hw : ws = Cond.code y cc maxL ret :: ws') (hn : (lg_sl As).length ≤ maxL)
    (body : ∀ (p : Program) (e : Env) (s : State) (m : MethodId) (args : Array Value) (below : List Frame) (meth : Method) (c : Code) (A : Nat → Prop) (ls : Array Slot) (Q : State → Prop), Q = jQi below E w1 r A args s → p.tables.exec = Jvm.exec → c.code = cc → meth.sig.returnType = ret → c.maxLocals = maxL → s.vm.findClass y.cls = some m.cls → meth.locks = false → (∀ w ∈ ws, w.before args s = true) → jK E A s → (∀ q, s.heap.size ≤ q → A q) → va_P E.1 vwCl w0 s.heap → va_D A w0 → va_S A s.heap s.heap [] → lv_has ls maxL (lv_args 0 As) → W p l e rm s m args below meth c s.heap [] 0 0 Q (F0 m 0 ls [])) : jMi l y ws rm E As w0 r w1 := by
  intro sz
  refine Met.ofW (cc := cc) (maxL := maxL) (ret := ret) hy hw ?_
  intro p e s m args below meth c s₁ B hml hv
  obtain ⟨rfl, hsz, hP, hD0, hK⟩ := hv
  subst hsz
  have hl := lv_entry As hn
  rw [lg_entry_eq]
  exact body p e s m As.toArray below meth c _ _ _ rfl B.exec B.bytes B.returns hml (findClass_of_methodNamed B.named) B.notSynchronized (atoms_spec (ws := ws) B.pre) hK (fun q h => Or.inr h) hP hD0.self va_S.rf hl
theorem jMv.begin {l : Launch} {y : MethodName} {ws ws' : List Cond} {rm : Room} {E : jE} {As : List Value} {w0 w1 : va_W} {cc : ByteArray} {maxL : Nat} {ret : Option FieldType} (hy : plainName y.cls = true) (hw : ws = Cond.code y cc maxL ret :: ws') (hn : (lg_sl As).length ≤ maxL)
    (body : ∀ (p : Program) (e : Env) (s : State) (m : MethodId) (args : Array Value) (below : List Frame) (meth : Method) (c : Code) (A : Nat → Prop) (ls : Array Slot) (Q : State → Prop), Q = jQv below E w1 A args s → p.tables.exec = Jvm.exec → c.code = cc → meth.sig.returnType = ret → c.maxLocals = maxL → s.vm.findClass y.cls = some m.cls → meth.locks = false → (∀ w ∈ ws, w.before args s = true) → jK E A s → (∀ q, s.heap.size ≤ q → A q) → va_P E.1 vwCl w0 s.heap → va_D A w0 → va_S A s.heap s.heap [] → lv_has ls maxL (lv_args 0 As) → W p l e rm s m args below meth c s.heap [] 0 0 Q (F0 m 0 ls [])) : jMv l y ws rm E As w0 w1 := by
  intro sz
  refine Met.ofW (cc := cc) (maxL := maxL) (ret := ret) hy hw ?_
  intro p e s m args below meth c s₁ B hml hv
  obtain ⟨rfl, hsz, hP, hD0, hK⟩ := hv
  subst hsz
  have hl := lv_entry As hn
  rw [lg_entry_eq]
  exact body p e s m As.toArray below meth c _ _ _ rfl B.exec B.bytes B.returns hml (findClass_of_methodNamed B.named) B.notSynchronized (atoms_spec (ws := ws) B.pre) hK (fun q h => Or.inr h) hP hD0.self va_S.rf hl
theorem j_all {w : va_W} {is : List Nat} (h : (is.all fun i => i.blt w.length) = true) : is.map (fun i => w[i]?) = (is.filterMap (fun i => w[i]?)).map some := by
  induction is with
  | nil => rfl
  | cons i is ih =>
    simp only [List.all_cons, Bool.and_eq_true] at h
    have hi : i < w.length := by have := h.1; simpa [Nat.blt_eq] using this
    rw [List.map_cons, List.getElem?_eq_getElem hi, List.filterMap_cons, List.getElem?_eq_getElem hi, List.map_cons, ih h.2]
section JK
variable {p : Program} {l : Launch} {e : Env} {R : Room} {s : State} {m : MethodId} {args : Array Value} {below : List Frame} {meth : Method} {c : Code} {H : Heap} {locs : List Loc} {Q : State → Prop}
variable {cc : ByteArray} {pc : Nat} {ls : Array Slot} {rest st0 : List Value} {A : Nat → Prop} {E : jE} {w w1 wc : va_W} {r : Int32}
theorem j_iret {ρ : Type} {T u : ρ} {rv : ρ → Int32} {wv : ρ → va_W} {ty : FieldType} (h : some u = some T) (hQ : Q = jQi below E (wv T) (rv T) A args s) (hx : p.tables.exec = Jvm.exec) (hb : c.code = cc) (hr : meth.sig.returnType = some ty) (hn : narrow ty (.int (rv u)) = .int (rv u)) (hlocks : meth.locks = false) (hS : va_S A s.heap H locs) (hP : va_P E.1 vwCl (wv u) H) (hD : va_D A (wv u)) (hdg : decode cc pc = .ok (.ireturn, 1)) : W p l e R s m args below meth c H locs 0 0 Q (F0 m pc ls [.int (rv u)]) := by
  obtain rfl := Option.some.inj h
  subst hQ
  exact W.zret hx hb hr hn (fun t ht hW => ⟨⟨_, (), rfl, rfl, by rw [ht]; exact hP, hD⟩, hS.F ht⟩) hS.2.2 hdg hlocks
theorem j_vret {ρ : Type} {T u : ρ} {wv : ρ → va_W} (h : some u = some T) (hQ : Q = jQv below E (wv T) A args s) (hx : p.tables.exec = Jvm.exec) (hb : c.code = cc) (hr : meth.sig.returnType = none) (hlocks : meth.locks = false) (hS : va_S A s.heap H locs) (hP : va_P E.1 vwCl (wv u) H) (hD : va_D A (wv u)) (hdg : decode cc pc = .ok (.return_, 1)) : W p l e R s m args below meth c H locs 0 0 Q (F0 m pc ls []) := by
  obtain rfl := Option.some.inj h
  subst hQ
  exact W.vret hx hb hr (fun t ht hW => ⟨⟨(), rfl, trivial, by rw [ht]; exact hP, hD⟩, hS.F ht⟩) hS.2.2 hdg hlocks
theorem j_goi {a : Array Value} (hr : va_Run p l e R s m args below meth c H locs 0 0 0 0 (F0 m pc ls st0) rest (va_Qi (fun (r' : Int32) (_ : Unit) => r' = r) (jB E w1 (va_A wc H.size)) (va_A wc H.size) a) (va_A wc H.size)) (hP : va_P E.1 vwCl w H) (hD : va_D A w) (hS : va_S A s.heap H locs) (hF : ∀ q, va_A wc H.size q → A q) (isC isR isB : List Nat) (hC : isC.map (fun i => w[i]?) = wc.map some) (hR : (isR.all fun i => i.blt w.length) = true) (hn : va_nd isR = true) (hdis : ∀ i ∈ isR, i ∉ isC) (hB : (isB.all fun i => i.blt (isR.length + w1.length)) = true) (hBn : va_nd isB = true)
    (kk : ∀ (H1 : Heap) (locs1 : List Loc), va_P E.1 vwCl (isB.filterMap (fun i => (isR.filterMap (fun i => w[i]?) ++ w1)[i]?)) H1 → va_D A (isB.filterMap (fun i => (isR.filterMap (fun i => w[i]?) ++ w1)[i]?)) → va_S A s.heap H1 locs1 → W p l e R s m args below meth c H1 locs1 0 0 Q (F0 m (pc + 3) ls (.int r :: rest))) : W p l e R s m args below meth c H locs 0 0 Q (F0 m pc ls st0) := by
  refine va_calli hr hS (fun q _ h => hF q h) hF (fun r1 u t H1 locs1 ht hvm hw hB1 hz1 hk1 hS1 => ?_)
  subst hw
  obtain ⟨hP1, hD1⟩ := hB1
  rw [ht] at hP1
  have hR2 := j_all hR
  obtain ⟨hP2, hD2⟩ := va_join hP hD isC isR hC hR2 hn hdis hk1 hF hP1 hD1
  have hl : (isR.filterMap (fun i => w[i]?) ++ w1).length = isR.length + w1.length := by
    have := congrArg List.length hR2
    simp only [List.length_map] at this
    rw [List.length_append, ← this]
  have hB2 := j_all (w := isR.filterMap (fun i => w[i]?) ++ w1) (is := isB) (by rw [hl]; exact hB)
  exact kk H1 locs1 (hP2.sub isB rfl) (hD2.sub isB hBn hB2) hS1
theorem j_gov {a : Array Value} (hr : va_Run p l e R s m args below meth c H locs 0 0 0 0 (F0 m pc ls st0) rest (va_Qv (fun (_ : Unit) => True) (jB E w1 (va_A wc H.size)) (va_A wc H.size) a) (va_A wc H.size)) (hP : va_P E.1 vwCl w H) (hD : va_D A w) (hS : va_S A s.heap H locs) (hF : ∀ q, va_A wc H.size q → A q) (isC isR isB : List Nat) (hC : isC.map (fun i => w[i]?) = wc.map some) (hR : (isR.all fun i => i.blt w.length) = true) (hn : va_nd isR = true) (hdis : ∀ i ∈ isR, i ∉ isC) (hB : (isB.all fun i => i.blt (isR.length + w1.length)) = true) (hBn : va_nd isB = true)
    (kk : ∀ (H1 : Heap) (locs1 : List Loc), va_P E.1 vwCl (isB.filterMap (fun i => (isR.filterMap (fun i => w[i]?) ++ w1)[i]?)) H1 → va_D A (isB.filterMap (fun i => (isR.filterMap (fun i => w[i]?) ++ w1)[i]?)) → va_S A s.heap H1 locs1 → W p l e R s m args below meth c H1 locs1 0 0 Q (F0 m (pc + 3) ls (rest))) : W p l e R s m args below meth c H locs 0 0 Q (F0 m pc ls st0) := by
  refine va_callv hr hS (fun q _ h => hF q h) hF (fun u t H1 locs1 ht hvm hw hB1 hz1 hk1 hS1 => ?_)
  obtain ⟨hP1, hD1⟩ := hB1
  rw [ht] at hP1
  have hR2 := j_all hR
  obtain ⟨hP2, hD2⟩ := va_join hP hD isC isR hC hR2 hn hdis hk1 hF hP1 hD1
  have hl : (isR.filterMap (fun i => w[i]?) ++ w1).length = isR.length + w1.length := by
    have := congrArg List.length hR2
    simp only [List.length_map] at this
    rw [List.length_append, ← this]
  have hB2 := j_all (w := isR.filterMap (fun i => w[i]?) ++ w1) (is := isB) (by rw [hl]; exact hB)
  exact kk H1 locs1 (hP2.sub isB rfl) (hD2.sub isB hBn hB2) hS1
/-- the callee's cells out of the caller's -/
theorem j_cut {isC : List Nat} (hP : va_P E.1 vwCl w H) (hC : isC.map (fun i => w[i]?) = wc.map some) : va_P E.1 vwCl wc H := by
  refine hP.sub isC ?_
  have e1 : isC.filterMap (fun i => w[i]?) = (isC.map (fun i => w[i]?)).filterMap id := by rw [List.filterMap_map]; rfl
  rw [e1, hC, List.filterMap_map]
  exact List.filterMap_some
theorem j_pre {As : List Value} {isC : List Nat} (hK : jK E A s) (hP : va_P E.1 vwCl w H) (hD : va_D A w) (hS : va_S A s.heap H locs) (hF : ∀ q, va_A wc H.size q → A q) (hC : isC.map (fun i => w[i]?) = wc.map some) (hCn : va_nd isC = true) : ∀ U : State, U.heap = H → s.WarmedH U.vm → jPc E As wc H.size As.toArray U :=
  fun U hU hW => ⟨rfl, by rw [hU], by rw [hU]; exact j_cut hP hC, (hD.sub isC hCn hC).weaken (fun _ _ _ _ => trivial), hK.go hS hF hU hW⟩
variable {y : MethodName} {bytes : ByteArray} {maxL nL n index : Nat} {ret : Option FieldType} {ws ws' Ts : List Cond} {rm : Room} {own C : String} {b : Nat} {As : List Value}
/-- a method of an object, an int back -/
theorem j_callVi {T0 : u_T} {N0 : Nat} (hx : p.tables.exec = Jvm.exec) (hb : c.code = cc) (hml : c.maxLocals = nL) (hown : s.vm.findClass own = some m.cls) (hts : ∀ w ∈ Ts, w.before args s = true) (hK : jK E A s) (hA : ∀ q, s.heap.size ≤ q → A q) (hP : va_P E.1 vwCl w H) (hD : va_D A w) (hS : va_S A s.heap H locs)
    (hM : jMi l y ws rm E (.ref b :: As) wc r w1) (hG : GoodIn Ts (wsV own index C y ws)) (hw : ws = Cond.code y bytes maxL ret :: ws') (hrm : rm.cells = 0 ∧ rm.slots = 0) (na : Nat) (hd : y.cls = C ∧ y.cls ≠ "java/lang/invoke/MethodHandle" ∧ y.cls ≠ "java/lang/invoke/VarHandle" ∧ (parseMethodDescriptor y.desc).map (fun d => d.parameters.length) = some na) (hna : As.length = na) (hR : ((rm.frames + 1).ble R.frames && (8 + (maxL + 11) + rm.locals).ble R.locals) = true)
    (q0 ci : Nat) {fs : List Value} (he : w[q0]? = some (b, .inr (ci, fs))) (hc : vwCl[ci]? = some (C, T0, N0)) (isC isR isB : List Nat) (hC : isC.map (fun i => w[i]?) = wc.map some) (hCn : va_nd isC = true) (hRr : (isR.all fun i => i.blt w.length) = true) (hn : va_nd isR = true) (hdis : (isR.all fun i => !isC.contains i) = true) (hB : (isB.all fun i => i.blt (isR.length + w1.length)) = true) (hBn : va_nd isB = true)
    (hsz : ls.size = nL) (hst : st0 = As.reverse ++ .ref b :: rest) (hroom : Nat.ble (rest.map fun v => Value.category v).sum 8 = true) (hdg : decode cc pc = .ok (.invokevirtual index, 3))
    (kk : ∀ (H1 : Heap) (locs1 : List Loc), va_P E.1 vwCl (isB.filterMap (fun i => (isR.filterMap (fun i => w[i]?) ++ w1)[i]?)) H1 → va_D A (isB.filterMap (fun i => (isR.filterMap (fun i => w[i]?) ++ w1)[i]?)) → va_S A s.heap H1 locs1 → W p l e R s m args below meth c H1 locs1 0 0 Q (F0 m (pc + 3) ls (.int r :: rest))) : W p l e R s m args below meth c H locs 0 0 Q (F0 m pc ls st0) := by
  subst hna
  have hF := va_free hD hS hA isC hC
  have hR2 := Bool.and_eq_true_iff.mp hR
  subst hst
  exact j_goi (va_runV (C := C) (As := As) (rest := rest) ⟨hx, hb, hml, hown, hts⟩ (hM H.size) (cwV As.length hts hG hw hrm.1 hrm.2 hd ⟨Nat.le_of_ble_eq_true hR2.1, Nat.le_of_ble_eq_true hR2.2⟩) ⟨jPc.blind, va_recv hK.1 hP hc he, j_pre hK hP hD hS hF hC hCn⟩ rfl rfl hsz rfl (lv_room (Nat.le_of_ble_eq_true hroom)) hdg ⟨Nat.zero_le _, Nat.zero_le _⟩) hP hD hS hF isC isR isB hC hRr hn (fun i hi hc => by have := List.all_eq_true.mp hdis i hi; simp [hc] at this) hB hBn kk
/-- the same, of an object that isn't among the cells -/
theorem j_callRi (hx : p.tables.exec = Jvm.exec) (hb : c.code = cc) (hml : c.maxLocals = nL) (hown : s.vm.findClass own = some m.cls) (hts : ∀ w ∈ Ts, w.before args s = true) (hK : jK E A s) (hA : ∀ q, s.heap.size ≤ q → A q) (hP : va_P E.1 vwCl w H) (hD : va_D A w) (hS : va_S A s.heap H locs)
    (hM : jMi l y ws rm E (.ref b :: As) wc r w1) (hG : GoodIn Ts (wsV own index C y ws)) (hw : ws = Cond.code y bytes maxL ret :: ws') (hrm : rm.cells = 0 ∧ rm.slots = 0) (na : Nat) (hd : y.cls = C ∧ y.cls ≠ "java/lang/invoke/MethodHandle" ∧ y.cls ≠ "java/lang/invoke/VarHandle" ∧ (parseMethodDescriptor y.desc).map (fun d => d.parameters.length) = some na) (hna : As.length = na) (hR : ((rm.frames + 1).ble R.frames && (8 + (maxL + 11) + rm.locals).ble R.locals) = true)
    (hrc : ∃ cell : Cell, H[b]? = some cell ∧ cell.vm.isStatics = false ∧ s.vm.findClass C = some cell.cls) (isC isR isB : List Nat) (hC : isC.map (fun i => w[i]?) = wc.map some) (hCn : va_nd isC = true) (hRr : (isR.all fun i => i.blt w.length) = true) (hn : va_nd isR = true) (hdis : (isR.all fun i => !isC.contains i) = true) (hB : (isB.all fun i => i.blt (isR.length + w1.length)) = true) (hBn : va_nd isB = true)
    (hsz : ls.size = nL) (hst : st0 = As.reverse ++ .ref b :: rest) (hroom : Nat.ble (rest.map fun v => Value.category v).sum 8 = true) (hdg : decode cc pc = .ok (.invokevirtual index, 3))
    (kk : ∀ (H1 : Heap) (locs1 : List Loc), va_P E.1 vwCl (isB.filterMap (fun i => (isR.filterMap (fun i => w[i]?) ++ w1)[i]?)) H1 → va_D A (isB.filterMap (fun i => (isR.filterMap (fun i => w[i]?) ++ w1)[i]?)) → va_S A s.heap H1 locs1 → W p l e R s m args below meth c H1 locs1 0 0 Q (F0 m (pc + 3) ls (.int r :: rest))) : W p l e R s m args below meth c H locs 0 0 Q (F0 m pc ls st0) := by
  subst hna
  have hF := va_free hD hS hA isC hC
  have hR2 := Bool.and_eq_true_iff.mp hR
  subst hst
  exact j_goi (va_runV (C := C) (As := As) (rest := rest) ⟨hx, hb, hml, hown, hts⟩ (hM H.size) (cwV As.length hts hG hw hrm.1 hrm.2 hd ⟨Nat.le_of_ble_eq_true hR2.1, Nat.le_of_ble_eq_true hR2.2⟩) ⟨jPc.blind, hrc, j_pre hK hP hD hS hF hC hCn⟩ rfl rfl hsz rfl (lv_room (Nat.le_of_ble_eq_true hroom)) hdg ⟨Nat.zero_le _, Nat.zero_le _⟩) hP hD hS hF isC isR isB hC hRr hn (fun i hi hc => by have := List.all_eq_true.mp hdis i hi; simp [hc] at this) hB hBn kk
theorem j_callVv {T0 : u_T} {N0 : Nat} (hx : p.tables.exec = Jvm.exec) (hb : c.code = cc) (hml : c.maxLocals = nL) (hown : s.vm.findClass own = some m.cls) (hts : ∀ w ∈ Ts, w.before args s = true) (hK : jK E A s) (hA : ∀ q, s.heap.size ≤ q → A q) (hP : va_P E.1 vwCl w H) (hD : va_D A w) (hS : va_S A s.heap H locs)
    (hM : jMv l y ws rm E (.ref b :: As) wc w1) (hG : GoodIn Ts (wsV own index C y ws)) (hw : ws = Cond.code y bytes maxL ret :: ws') (hrm : rm.cells = 0 ∧ rm.slots = 0) (na : Nat) (hd : y.cls = C ∧ y.cls ≠ "java/lang/invoke/MethodHandle" ∧ y.cls ≠ "java/lang/invoke/VarHandle" ∧ (parseMethodDescriptor y.desc).map (fun d => d.parameters.length) = some na) (hna : As.length = na) (hR : ((rm.frames + 1).ble R.frames && (8 + (maxL + 11) + rm.locals).ble R.locals) = true)
    (q0 ci : Nat) {fs : List Value} (he : w[q0]? = some (b, .inr (ci, fs))) (hc : vwCl[ci]? = some (C, T0, N0)) (isC isR isB : List Nat) (hC : isC.map (fun i => w[i]?) = wc.map some) (hCn : va_nd isC = true) (hRr : (isR.all fun i => i.blt w.length) = true) (hn : va_nd isR = true) (hdis : (isR.all fun i => !isC.contains i) = true) (hB : (isB.all fun i => i.blt (isR.length + w1.length)) = true) (hBn : va_nd isB = true)
    (hsz : ls.size = nL) (hst : st0 = As.reverse ++ .ref b :: rest) (hroom : Nat.ble (rest.map fun v => Value.category v).sum 8 = true) (hdg : decode cc pc = .ok (.invokevirtual index, 3))
    (kk : ∀ (H1 : Heap) (locs1 : List Loc), va_P E.1 vwCl (isB.filterMap (fun i => (isR.filterMap (fun i => w[i]?) ++ w1)[i]?)) H1 → va_D A (isB.filterMap (fun i => (isR.filterMap (fun i => w[i]?) ++ w1)[i]?)) → va_S A s.heap H1 locs1 → W p l e R s m args below meth c H1 locs1 0 0 Q (F0 m (pc + 3) ls rest)) : W p l e R s m args below meth c H locs 0 0 Q (F0 m pc ls st0) := by
  subst hna
  have hF := va_free hD hS hA isC hC
  have hR2 := Bool.and_eq_true_iff.mp hR
  subst hst
  exact j_gov (va_runV (C := C) (As := As) (rest := rest) ⟨hx, hb, hml, hown, hts⟩ (hM H.size) (cwV As.length hts hG hw hrm.1 hrm.2 hd ⟨Nat.le_of_ble_eq_true hR2.1, Nat.le_of_ble_eq_true hR2.2⟩) ⟨jPc.blind, va_recv hK.1 hP hc he, j_pre hK hP hD hS hF hC hCn⟩ rfl rfl hsz rfl (lv_room (Nat.le_of_ble_eq_true hroom)) hdg ⟨Nat.zero_le _, Nat.zero_le _⟩) hP hD hS hF isC isR isB hC hRr hn (fun i hi hc => by have := List.all_eq_true.mp hdis i hi; simp [hc] at this) hB hBn kk
/-- a static method of the same class family: own words -/
theorem j_callSi (hx : p.tables.exec = Jvm.exec) (hb : c.code = cc) (hml : c.maxLocals = nL) (hown : s.vm.findClass own = some m.cls) (hts : ∀ w ∈ Ts, w.before args s = true) (hK : jK E A s) (hA : ∀ q, s.heap.size ≤ q → A q) (hP : va_P E.1 vwCl w H) (hD : va_D A w) (hS : va_S A s.heap H locs)
    (hM : jMi l y ws rm E As wc r w1) (hG : GoodIn Ts (va_wsS own index y ws)) (hw : ws = Cond.code y bytes maxL ret :: ws') (hrm : rm.cells = 0 ∧ rm.slots = 0) (na : Nat) (hd : y.cls ≠ "java/lang/invoke/MethodHandle" ∧ y.cls ≠ "java/lang/invoke/VarHandle" ∧ (parseMethodDescriptor y.desc).map (fun d => d.parameters.length) = some na) (hna : As.length = na) (hR : ((rm.frames + 1).ble R.frames && (8 + (maxL + 11) + rm.locals).ble R.locals) = true)
    (isC isR isB : List Nat) (hC : isC.map (fun i => w[i]?) = wc.map some) (hCn : va_nd isC = true) (hRr : (isR.all fun i => i.blt w.length) = true) (hn : va_nd isR = true) (hdis : (isR.all fun i => !isC.contains i) = true) (hB : (isB.all fun i => i.blt (isR.length + w1.length)) = true) (hBn : va_nd isB = true)
    (hsz : ls.size = nL) (hst : st0 = As.reverse ++ rest) (hroom : Nat.ble (rest.map fun v => Value.category v).sum 8 = true) (hdg : decode cc pc = .ok (.invokestatic index, 3))
    (kk : ∀ (H1 : Heap) (locs1 : List Loc), va_P E.1 vwCl (isB.filterMap (fun i => (isR.filterMap (fun i => w[i]?) ++ w1)[i]?)) H1 → va_D A (isB.filterMap (fun i => (isR.filterMap (fun i => w[i]?) ++ w1)[i]?)) → va_S A s.heap H1 locs1 → W p l e R s m args below meth c H1 locs1 0 0 Q (F0 m (pc + 3) ls (.int r :: rest))) : W p l e R s m args below meth c H locs 0 0 Q (F0 m pc ls st0) := by
  subst hna
  have hF := va_free hD hS hA isC hC
  have hR2 := Bool.and_eq_true_iff.mp hR
  subst hst
  have hin : ∀ w ∈ va_wsS own index y ws, w ∈ Ts := fun w h => (hG w h).1
  exact j_goi (va_runS (As := As) (rest := rest) ⟨hx, hb, hml, hown, hts⟩ (hM H.size) ⟨callB_of As.length hts (fun w h => hG w (List.mem_append_right _ h)) hw hrm.1 hrm.2 (hts _ (hin _ (by simp [va_wsS]))) (hts _ (hin _ (by simp [va_wsS]))) hd ⟨Nat.le_of_ble_eq_true hR2.1, Nat.le_of_ble_eq_true hR2.2⟩, hts _ (hin _ (by simp [va_wsS]))⟩ ⟨jPc.blind, j_pre hK hP hD hS hF hC hCn⟩ rfl rfl hsz rfl (lv_room (Nat.le_of_ble_eq_true hroom)) hdg ⟨Nat.zero_le _, Nat.zero_le _⟩) hP hD hS hF isC isR isB hC hRr hn (fun i hi hc => by have := List.all_eq_true.mp hdis i hi; simp [hc] at this) hB hBn kk
theorem j_callSv (hx : p.tables.exec = Jvm.exec) (hb : c.code = cc) (hml : c.maxLocals = nL) (hown : s.vm.findClass own = some m.cls) (hts : ∀ w ∈ Ts, w.before args s = true) (hK : jK E A s) (hA : ∀ q, s.heap.size ≤ q → A q) (hP : va_P E.1 vwCl w H) (hD : va_D A w) (hS : va_S A s.heap H locs)
    (hM : jMv l y ws rm E As wc w1) (hG : GoodIn Ts (va_wsS own index y ws)) (hw : ws = Cond.code y bytes maxL ret :: ws') (hrm : rm.cells = 0 ∧ rm.slots = 0) (na : Nat) (hd : y.cls ≠ "java/lang/invoke/MethodHandle" ∧ y.cls ≠ "java/lang/invoke/VarHandle" ∧ (parseMethodDescriptor y.desc).map (fun d => d.parameters.length) = some na) (hna : As.length = na) (hR : ((rm.frames + 1).ble R.frames && (8 + (maxL + 11) + rm.locals).ble R.locals) = true)
    (isC isR isB : List Nat) (hC : isC.map (fun i => w[i]?) = wc.map some) (hCn : va_nd isC = true) (hRr : (isR.all fun i => i.blt w.length) = true) (hn : va_nd isR = true) (hdis : (isR.all fun i => !isC.contains i) = true) (hB : (isB.all fun i => i.blt (isR.length + w1.length)) = true) (hBn : va_nd isB = true)
    (hsz : ls.size = nL) (hst : st0 = As.reverse ++ rest) (hroom : Nat.ble (rest.map fun v => Value.category v).sum 8 = true) (hdg : decode cc pc = .ok (.invokestatic index, 3))
    (kk : ∀ (H1 : Heap) (locs1 : List Loc), va_P E.1 vwCl (isB.filterMap (fun i => (isR.filterMap (fun i => w[i]?) ++ w1)[i]?)) H1 → va_D A (isB.filterMap (fun i => (isR.filterMap (fun i => w[i]?) ++ w1)[i]?)) → va_S A s.heap H1 locs1 → W p l e R s m args below meth c H1 locs1 0 0 Q (F0 m (pc + 3) ls rest)) : W p l e R s m args below meth c H locs 0 0 Q (F0 m pc ls st0) := by
  subst hna
  have hF := va_free hD hS hA isC hC
  have hR2 := Bool.and_eq_true_iff.mp hR
  subst hst
  have hin : ∀ w ∈ va_wsS own index y ws, w ∈ Ts := fun w h => (hG w h).1
  exact j_gov (va_runS (As := As) (rest := rest) ⟨hx, hb, hml, hown, hts⟩ (hM H.size) ⟨callB_of As.length hts (fun w h => hG w (List.mem_append_right _ h)) hw hrm.1 hrm.2 (hts _ (hin _ (by simp [va_wsS]))) (hts _ (hin _ (by simp [va_wsS]))) hd ⟨Nat.le_of_ble_eq_true hR2.1, Nat.le_of_ble_eq_true hR2.2⟩, hts _ (hin _ (by simp [va_wsS]))⟩ ⟨jPc.blind, j_pre hK hP hD hS hF hC hCn⟩ rfl rfl hsz rfl (lv_room (Nat.le_of_ble_eq_true hroom)) hdg ⟨Nat.zero_le _, Nat.zero_le _⟩) hP hD hS hF isC isR isB hC hRr hn (fun i hi hc => by have := List.all_eq_true.mp hdis i hi; simp [hc] at this) hB hBn kk
/-- a static method of a nest mate -/
theorem j_callNi (hx : p.tables.exec = Jvm.exec) (hb : c.code = cc) (hml : c.maxLocals = nL) (hown : s.vm.findClass own = some m.cls) (hts : ∀ w ∈ Ts, w.before args s = true) (hK : jK E A s) (hA : ∀ q, s.heap.size ≤ q → A q) (hP : va_P E.1 vwCl w H) (hD : va_D A w) (hS : va_S A s.heap H locs)
    (hM : jMi l y ws rm E As wc r w1) (hG : GoodIn Ts ws) (hnest : (own, index, y) ∈ jNest) (hini : Cond.initialized y.cls ∈ Ts) (hstat : Cond.static y ∈ Ts) (hw : ws = Cond.code y bytes maxL ret :: ws') (hrm : rm.cells = 0 ∧ rm.slots = 0) (na : Nat) (hd : y.cls ≠ "java/lang/invoke/MethodHandle" ∧ y.cls ≠ "java/lang/invoke/VarHandle" ∧ (parseMethodDescriptor y.desc).map (fun d => d.parameters.length) = some na) (hna : As.length = na) (hR : ((rm.frames + 1).ble R.frames && (8 + (maxL + 11) + rm.locals).ble R.locals) = true)
    (isC isR isB : List Nat) (hC : isC.map (fun i => w[i]?) = wc.map some) (hCn : va_nd isC = true) (hRr : (isR.all fun i => i.blt w.length) = true) (hn : va_nd isR = true) (hdis : (isR.all fun i => !isC.contains i) = true) (hB : (isB.all fun i => i.blt (isR.length + w1.length)) = true) (hBn : va_nd isB = true)
    (hsz : ls.size = nL) (hst : st0 = As.reverse ++ rest) (hroom : Nat.ble (rest.map fun v => Value.category v).sum 8 = true) (hdg : decode cc pc = .ok (.invokestatic index, 3))
    (kk : ∀ (H1 : Heap) (locs1 : List Loc), va_P E.1 vwCl (isB.filterMap (fun i => (isR.filterMap (fun i => w[i]?) ++ w1)[i]?)) H1 → va_D A (isB.filterMap (fun i => (isR.filterMap (fun i => w[i]?) ++ w1)[i]?)) → va_S A s.heap H1 locs1 → W p l e R s m args below meth c H1 locs1 0 0 Q (F0 m (pc + 3) ls (.int r :: rest))) : W p l e R s m args below meth c H locs 0 0 Q (F0 m pc ls st0) := by
  subst hna
  have hF := va_free hD hS hA isC hC
  have hR2 := Bool.and_eq_true_iff.mp hR
  subst hst
  exact j_goi (va_runSN (As := As) (rest := rest) ⟨hx, hb, hml, hown, hts⟩ (hM H.size) ⟨va_cnB As.length hts hG hw hrm.1 hrm.2 (hK.2.1 (own, index, y) hnest) (hts _ hini) hd ⟨Nat.le_of_ble_eq_true hR2.1, Nat.le_of_ble_eq_true hR2.2⟩, hts _ hstat, trivial⟩ ⟨jPc.blind, j_pre hK hP hD hS hF hC hCn⟩ rfl rfl hsz rfl (lv_room (Nat.le_of_ble_eq_true hroom)) hdg ⟨Nat.zero_le _, Nat.zero_le _⟩) hP hD hS hF isC isR isB hC hRr hn (fun i hi hc => by have := List.all_eq_true.mp hdis i hi; simp [hc] at this) hB hBn kk
end JK
/-! guards of the pure functions -/
def jga {α : Type} (i : Int32) (n : Nat) (k : Option α) : Option α := if i < 0 ∨ n ≤ i.toNatClampNeg then none else k
theorem jga_e {α : Type} {i : Int32} {n : Nat} {k : Option α} {T : α} (h : jga i n k = some T) : vp_in i n ∧ k = some T := by
  unfold jga at h
  split at h
  · cases h
  · rename_i hc; exact ⟨hc, h⟩
theorem jif_t {α : Type} {q : Prop} [Decidable q] {x y : Option α} {T : Option α} (hq : q) (h : (if q then x else y) = T) : x = T := by rw [if_pos hq] at h; exact h
theorem jif_f {α : Type} {q : Prop} [Decidable q] {x y : Option α} {T : Option α} (hq : ¬ q) (h : (if q then x else y) = T) : y = T := by rw [if_neg hq] at h; exact h
theorem jbd {α β : Type} {x : Option β} {k : β → Option α} {T : α} (h : x.bind k = some T) : ∃ y, x = some y ∧ k y = some T := by
  cases x with
  | none => cases h
  | some y => exact ⟨y, rfl, h⟩
def jgc {α : Type} (sp dp n : Int32) (n0 n1 : Nat) (k : Option α) : Option α := if sp < 0 ∨ dp < 0 ∨ n < 0 ∨ n0 < sp.toNatClampNeg + n.toNatClampNeg ∨ n1 < dp.toNatClampNeg + n.toNatClampNeg then none else k
theorem jgc_e {α : Type} {sp dp n : Int32} {n0 n1 : Nat} {k : Option α} {T : α} (h : jgc sp dp n n0 n1 k = some T) : ¬ sp < 0 ∧ ¬ dp < 0 ∧ ¬ n < 0 ∧ sp.toNatClampNeg + n.toNatClampNeg ≤ n0 ∧ dp.toNatClampNeg + n.toNatClampNeg ≤ n1 ∧ k = some T := by
  unfold jgc at h
  split at h
  · cases h
  · rename_i hc
    simp only [not_or, Nat.not_lt] at hc
    exact ⟨hc.1, hc.2.1, hc.2.2.1, hc.2.2.2.1, hc.2.2.2.2, h⟩
def jgf {α : Type} (f : Nat → Int32) (sp n : Int32) (k : Option α) : Option α := if ∀ i, i < n.toNatClampNeg → fits .byte (.int (f (sp.toNatClampNeg + i))) = true then k else none
theorem jgf_e {α : Type} {f : Nat → Int32} {sp n : Int32} {k : Option α} {T : α} (h : jgf f sp n k = some T) : (∀ i, i < n.toNatClampNeg → fits .byte (.int (f (sp.toNatClampNeg + i))) = true) ∧ k = some T := by
  unfold jgf at h
  split at h
  · rename_i hc; exact ⟨hc, h⟩
  · cases h
def jgb {α : Type} (z : Int32) (k : Option α) : Option α := if z = 0 ∨ z = 1 then k else none
theorem jgb_e {α : Type} {z : Int32} {k : Option α} {T : α} (h : jgb z k = some T) : narrow .boolean (.int z) = .int z ∧ k = some T := by
  unfold jgb at h
  split at h
  · rename_i hc
    refine ⟨?_, h⟩
    rcases hc with rfl | rfl <;> rfl
  · cases h
def jKey (i : Nat) : Int32 := jKeys.getD i 0
theorem j_tabout {x : Int32} (lo hi : Nat) (hh : hi < 2147483648) (h : ∀ k : Nat, lo ≤ k → k ≤ hi → ¬ x = nI k) : x.toInt < (lo : Int) ∨ (hi : Int) < x.toInt := by
  rcases Int.lt_or_le x.toInt lo with q | q
  · exact Or.inl q
  · rcases Int.lt_or_le (hi : Int) x.toInt with q2 | q2
    · exact Or.inr q2
    · exfalso
      have hx : x = nI x.toInt.toNat := by
        apply Int32.toInt_inj.mp
        rw [nI_toInt (by omega)]
        omega
      exact h x.toInt.toNat (by omega) (by omega) hx
