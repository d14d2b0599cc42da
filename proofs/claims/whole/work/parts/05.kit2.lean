/-! the contract of a constructor, which makes cells -/
def jMn (l : Launch) (y : MethodName) (ws : List Cond) (rm : Room) (E : jE) (As : List Value) (w0 : va_W) (k n : Nat) (post : va_W → Prop) : Prop := ∀ sz : Nat, Met l y ws rm (jPc E As w0 sz) (va_Qv (fun (_ : Unit) => True) (fun _ t => ∃ w1 : va_W, post w1 ∧ va_P E.1 vwCl w1 t.heap ∧ va_D (va_A w0 sz) w1) (va_A w0 sz)) k n (va_A w0 sz)
abbrev jQn (below : List Frame) (E : jE) (post : va_W → Prop) (A : Nat → Prop) (args : Array Value) (s : State) (k n : Nat) : State → Prop := MQ below (va_Qv (fun (_ : Unit) => True) (fun _ t => ∃ w1 : va_W, post w1 ∧ va_P E.1 vwCl w1 t.heap ∧ va_D A w1) A) args s k n A
theorem jMn.begin {l : Launch} {y : MethodName} {ws ws' : List Cond} {rm : Room} {E : jE} {As : List Value} {w0 : va_W} {k n : Nat} {post : va_W → Prop} {cc : ByteArray} {maxL : Nat} {ret : Option FieldType} (hy : plainName y.cls = true) (hw : ws = Cond.code y cc maxL ret :: ws') (hyn : y.name = "<init>") (hn : (lg_sl As).length ≤ maxL)
    (body : ∀ (p : Program) (e : Env) (s : State) (m : MethodId) (args : Array Value) (below : List Frame) (meth : Method) (c : Code) (A : Nat → Prop) (ls : Array Slot) (Q : State → Prop), Q = jQn below E post A args s k n → p.tables.exec = Jvm.exec → c.code = cc → meth.sig.returnType = ret → c.maxLocals = maxL → s.vm.findClass y.cls = some m.cls → meth.locks = false → meth.name = "<init>" → (∀ w ∈ ws, w.before args s = true) → jK E A s → (∀ q, s.heap.size ≤ q → A q) → va_P E.1 vwCl w0 s.heap → va_D A w0 → va_S A s.heap s.heap [] → lv_has ls maxL (lv_args 0 As) → W p l e rm s m args below meth c s.heap [] 0 0 Q (F0 m 0 ls [])) : jMn l y ws rm E As w0 k n post := by
  intro sz
  refine Met.ofW (cc := cc) (maxL := maxL) (ret := ret) hy hw ?_
  intro p e s m args below meth c s₁ B hml hv
  obtain ⟨rfl, hsz, hP, hD0, hK⟩ := hv
  subst hsz
  have hl := lv_entry As hn
  rw [lg_entry_eq]
  exact body p e s m As.toArray below meth c _ _ _ rfl B.exec B.bytes B.returns hml (findClass_of_methodNamed B.named) B.notSynchronized ((name_of_methodNamed B.named B.method).1.trans hyn) (atoms_spec (ws := ws) B.pre) hK (fun q h => Or.inr h) hP hD0.self va_S.rf hl
section JN
variable {p : Program} {l : Launch} {e : Env} {R : Room} {s : State} {m : MethodId} {args : Array Value} {below : List Frame} {meth : Method} {c : Code} {H : Heap} {locs : List Loc} {cells slots : Nat} {Q : State → Prop}
variable {cc : ByteArray} {pc : Nat} {ls : Array Slot} {rest st0 : List Value} {A : Nat → Prop} {E : jE} {w wc : va_W}
theorem j_nret {k n : Nat} {post : va_W → Prop} (hp : post w) (hQ : Q = jQn below E post A args s k n) (hx : p.tables.exec = Jvm.exec) (hb : c.code = cc) (hr : meth.sig.returnType = none) (hlocks : meth.locks = false) (hS : va_S A s.heap H locs) (hP : va_P E.1 vwCl w H) (hD : va_D A w) (hdg : decode cc pc = .ok (.return_, 1)) : W p l e R s m args below meth c H locs k n Q (F0 m pc ls []) := by
  subst hQ
  exact W.vret hx hb hr (fun t ht hW => ⟨⟨(), rfl, trivial, w, hp, by rw [ht]; exact hP, hD⟩, hS.F ht⟩) hS.2.2 hdg hlocks
theorem j_topeq {x : Int32} (y : Int32) (h : x = y) (k : W p l e R s m args below meth c H locs cells slots Q (F0 m pc ls (.int y :: rest))) : W p l e R s m args below meth c H locs cells slots Q (F0 m pc ls (.int x :: rest)) := h ▸ k
theorem j_newaI (hx : p.tables.exec = Jvm.exec) (hb : c.code = cc) (harr : (Cond.arrayClass .int).before args s = true) (hK : jK E A s) (hP : va_P E.1 vwCl w H) (hD : va_D A w) (hS : va_S A s.heap H locs) (hA : ∀ q, s.heap.size ≤ q → A q) {n : Int32} {N0 : Nat} (hn : ¬ n < 0) (hN : n.toNatClampNeg = N0) (hbytes : N0 * componentBytes .int ≤ 536870912) (hcells : cells + 1 ≤ R.cells) (hslots : slots + N0 ≤ R.slots) (hdg : decode cc pc = .ok (.newarray .int, 2))
    (kk : ∀ (q : Nat) (H1 : Heap), va_P E.1 vwCl (w ++ [(q, .inl (E.2.2.1, N0, .inl (fun _ => 0)))]) H1 → va_D A (w ++ [(q, .inl (E.2.2.1, N0, .inl (fun _ => 0)))]) → va_S A s.heap H1 locs → W p l e R s m args below meth c H1 locs (cells + 1) (slots + N0) Q (F0 m (pc + 2) ls (.ref q :: rest))) : W p l e R s m args below meth c H locs cells slots Q (F0 m pc ls (.int n :: rest)) := by
  refine va_newa (atype := .int) (ty := .int) (a0 := (N0, .inl (fun _ => 0))) hx hb harr rfl hK.1 hP hD hS hA (fun cA => rfl) hn hN hbytes hcells hslots hdg (fun q cA H1 hK1 hP1 hD1 hS1 => ?_)
  have e1 : s.vm.findClass "[I" = some cA := (hK1.2 2 (cA, .int) rfl).2
  have e2 : s.vm.findClass "[I" = some E.2.2.1 := (hK.1.2 1 (E.2.2.1, .int) rfl).2
  have e3 : cA = E.2.2.1 := Option.some.inj (e1.symm.trans e2)
  subst e3
  exact kk q H1 hP1 hD1 hS1
theorem j_newaB (hx : p.tables.exec = Jvm.exec) (hb : c.code = cc) (harr : (Cond.arrayClass .byte).before args s = true) (hK : jK E A s) (hP : va_P E.1 vwCl w H) (hD : va_D A w) (hS : va_S A s.heap H locs) (hA : ∀ q, s.heap.size ≤ q → A q) {n : Int32} {N0 : Nat} (hn : ¬ n < 0) (hN : n.toNatClampNeg = N0) (hbytes : N0 * componentBytes .byte ≤ 536870912) (hcells : cells + 1 ≤ R.cells) (hslots : slots + N0 ≤ R.slots) (hdg : decode cc pc = .ok (.newarray .byte, 2))
    (kk : ∀ (q : Nat) (H1 : Heap), va_P E.1 vwCl (w ++ [(q, .inl (E.2.1, N0, .inl (fun _ => 0)))]) H1 → va_D A (w ++ [(q, .inl (E.2.1, N0, .inl (fun _ => 0)))]) → va_S A s.heap H1 locs → W p l e R s m args below meth c H1 locs (cells + 1) (slots + N0) Q (F0 m (pc + 2) ls (.ref q :: rest))) : W p l e R s m args below meth c H locs cells slots Q (F0 m pc ls (.int n :: rest)) := by
  refine va_newa (atype := .byte) (ty := .byte) (a0 := (N0, .inl (fun _ => 0))) hx hb harr rfl hK.1 hP hD hS hA (fun cA => rfl) hn hN hbytes hcells hslots hdg (fun q cA H1 hK1 hP1 hD1 hS1 => ?_)
  have e1 : s.vm.findClass "[B" = some cA := (hK1.2 2 (cA, .byte) rfl).2
  have e2 : s.vm.findClass "[B" = some E.2.1 := (hK.1.2 0 (E.2.1, .byte) rfl).2
  have e3 : cA = E.2.1 := Option.some.inj (e1.symm.trans e2)
  subst e3
  exact kk q H1 hP1 hD1 hS1
theorem j_gon {k n : Nat} {post : va_W → Prop} {a : Array Value} (hr : va_Run p l e R s m args below meth c H locs cells slots k n (F0 m pc ls st0) rest (va_Qv (fun (_ : Unit) => True) (fun _ t => ∃ w1 : va_W, post w1 ∧ va_P E.1 vwCl w1 t.heap ∧ va_D (va_A wc H.size) w1) (va_A wc H.size) a) (va_A wc H.size)) (hP : va_P E.1 vwCl w H) (hD : va_D A w) (hS : va_S A s.heap H locs) (hF : ∀ q, va_A wc H.size q → A q) (isC isR : List Nat) (hC : isC.map (fun i => w[i]?) = wc.map some) (hR : (isR.all fun i => i.blt w.length) = true) (hn : va_nd isR = true) (hdis : ∀ i ∈ isR, i ∉ isC)
    (kk : ∀ (w1 : va_W) (H1 : Heap) (locs1 : List Loc), post w1 → va_P E.1 vwCl (isR.filterMap (fun i => w[i]?) ++ w1) H1 → va_D A (isR.filterMap (fun i => w[i]?) ++ w1) → va_S A s.heap H1 locs1 → W p l e R s m args below meth c H1 locs1 (cells + k) (slots + n) Q (F0 m (pc + 3) ls rest)) : W p l e R s m args below meth c H locs cells slots Q (F0 m pc ls st0) := by
  refine va_callv hr hS (fun q _ h => hF q h) hF (fun u t H1 locs1 ht hvm hw hB1 hz1 hk1 hS1 => ?_)
  obtain ⟨w1, hp, hP1, hD1⟩ := hB1
  rw [ht] at hP1
  obtain ⟨hP2, hD2⟩ := va_join hP hD isC isR hC (j_all hR) hn hdis hk1 hF hP1 hD1
  exact kk w1 H1 locs1 hp hP2 hD2 hS1
variable {y : MethodName} {bytes : ByteArray} {maxL nL index : Nat} {ws ws' Ts : List Cond} {rm : Room} {own : String} {b : Nat} {As : List Value}
theorem j_callI {k n : Nat} {post : va_W → Prop} (hx : p.tables.exec = Jvm.exec) (hb : c.code = cc) (hml : c.maxLocals = nL) (hown : s.vm.findClass own = some m.cls) (hts : ∀ w ∈ Ts, w.before args s = true) (hK : jK E A s) (hA : ∀ q, s.heap.size ≤ q → A q) (hP : va_P E.1 vwCl w H) (hD : va_D A w) (hS : va_S A s.heap H locs)
    (hM : jMn l y ws rm E (.ref b :: As) wc k n post) (hG : GoodIn Ts ws) (hini : (Cond.initialized y.cls).before args s = true) (hl : (Cond.methodLink own index y).before args s = true) (hin : (Cond.instanceMethod y).before args s = true) (hw : ws = Cond.code y bytes maxL none :: ws') (hrm : rm.cells = k ∧ rm.slots = n) (hy1 : y.name = "<init>") (na : Nat) (hd : y.cls ≠ "java/lang/invoke/MethodHandle" ∧ y.cls ≠ "java/lang/invoke/VarHandle" ∧ (parseMethodDescriptor y.desc).map (fun d => d.parameters.length) = some na) (hna : As.length = na) (hR : ((rm.frames + 1).ble R.frames && (8 + (maxL + 11) + rm.locals).ble R.locals) = true)
    (isC isR : List Nat) (hC : isC.map (fun i => w[i]?) = wc.map some) (hCn : va_nd isC = true) (hRr : (isR.all fun i => i.blt w.length) = true) (hn : va_nd isR = true) (hdis : (isR.all fun i => !isC.contains i) = true)
    (hsz : ls.size = nL) (hst : st0 = As.reverse ++ .ref b :: rest) (hroom : Nat.ble (rest.map fun v => Value.category v).sum 8 = true) (hdg : decode cc pc = .ok (.invokespecial index, 3)) (hf1 : cells + k ≤ R.cells) (hf2 : slots + n ≤ R.slots)
    (kk : ∀ (w1 : va_W) (H1 : Heap) (locs1 : List Loc), post w1 → va_P E.1 vwCl (isR.filterMap (fun i => w[i]?) ++ w1) H1 → va_D A (isR.filterMap (fun i => w[i]?) ++ w1) → va_S A s.heap H1 locs1 → W p l e R s m args below meth c H1 locs1 (cells + k) (slots + n) Q (F0 m (pc + 3) ls rest)) : W p l e R s m args below meth c H locs cells slots Q (F0 m pc ls st0) := by
  subst hna
  have hF := va_free hD hS hA isC hC
  have hR2 := Bool.and_eq_true_iff.mp hR
  subst hst
  exact j_gon (va_runI (As := As) (rest := rest) ⟨hx, hb, hml, hown, hts⟩ (hM H.size) (cwI As.length hts hG hw hrm.1 hrm.2 hini hl hin hy1 hd ⟨Nat.le_of_ble_eq_true hR2.1, Nat.le_of_ble_eq_true hR2.2⟩) ⟨jPc.blind, j_pre hK hP hD hS hF hC hCn⟩ rfl rfl hsz rfl (lv_room (Nat.le_of_ble_eq_true hroom)) hdg ⟨hf1, hf2⟩) hP hD hS hF isC isR hC hRr hn (fun i hi hc => by have := List.all_eq_true.mp hdis i hi; simp [hc] at this) kk
theorem j_callIN {k n : Nat} {post : va_W → Prop} (hx : p.tables.exec = Jvm.exec) (hb : c.code = cc) (hml : c.maxLocals = nL) (hown : s.vm.findClass own = some m.cls) (hts : ∀ w ∈ Ts, w.before args s = true) (hK : jK E A s) (hA : ∀ q, s.heap.size ≤ q → A q) (hP : va_P E.1 vwCl w H) (hD : va_D A w) (hS : va_S A s.heap H locs)
    (hM : jMn l y ws rm E (.ref b :: As) wc k n post) (hG : GoodIn Ts ws) (hnest : (own, index, y) ∈ jNest) (hini : (Cond.initialized y.cls).before args s = true) (hin : (Cond.instanceMethod y).before args s = true) (hw : ws = Cond.code y bytes maxL none :: ws') (hrm : rm.cells = k ∧ rm.slots = n) (hy1 : y.name = "<init>") (na : Nat) (hd : y.cls ≠ "java/lang/invoke/MethodHandle" ∧ y.cls ≠ "java/lang/invoke/VarHandle" ∧ (parseMethodDescriptor y.desc).map (fun d => d.parameters.length) = some na) (hna : As.length = na) (hR : ((rm.frames + 1).ble R.frames && (8 + (maxL + 11) + rm.locals).ble R.locals) = true)
    (isC isR : List Nat) (hC : isC.map (fun i => w[i]?) = wc.map some) (hCn : va_nd isC = true) (hRr : (isR.all fun i => i.blt w.length) = true) (hn : va_nd isR = true) (hdis : (isR.all fun i => !isC.contains i) = true)
    (hsz : ls.size = nL) (hst : st0 = As.reverse ++ .ref b :: rest) (hroom : Nat.ble (rest.map fun v => Value.category v).sum 8 = true) (hdg : decode cc pc = .ok (.invokespecial index, 3)) (hf1 : cells + k ≤ R.cells) (hf2 : slots + n ≤ R.slots)
    (kk : ∀ (w1 : va_W) (H1 : Heap) (locs1 : List Loc), post w1 → va_P E.1 vwCl (isR.filterMap (fun i => w[i]?) ++ w1) H1 → va_D A (isR.filterMap (fun i => w[i]?) ++ w1) → va_S A s.heap H1 locs1 → W p l e R s m args below meth c H1 locs1 (cells + k) (slots + n) Q (F0 m (pc + 3) ls rest)) : W p l e R s m args below meth c H locs cells slots Q (F0 m pc ls st0) := by
  subst hna
  have hF := va_free hD hS hA isC hC
  have hR2 := Bool.and_eq_true_iff.mp hR
  subst hst
  exact j_gon (va_runIN (As := As) (rest := rest) ⟨hx, hb, hml, hown, hts⟩ (hM H.size) ⟨va_cnB As.length hts hG hw hrm.1 hrm.2 (hK.2.1 (own, index, y) hnest) hini hd ⟨Nat.le_of_ble_eq_true hR2.1, Nat.le_of_ble_eq_true hR2.2⟩, hy1, hin⟩ ⟨jPc.blind, j_pre hK hP hD hS hF hC hCn⟩ rfl rfl hsz rfl (lv_room (Nat.le_of_ble_eq_true hroom)) hdg ⟨hf1, hf2⟩) hP hD hS hF isC isR hC hRr hn (fun i hi hc => by have := List.all_eq_true.mp hdis i hi; simp [hc] at this) kk
end JN
theorem j_none {α : Type} {P : Prop} {T : α} (h : (none : Option α) = some T) : P := by cases h
theorem jb_0 : narrow .boolean (.int 0) = .int 0 := rfl
theorem jb_1 : narrow .boolean (.int 1) = .int 1 := rfl
