/-! a plan: what it is; the class makes it -/
theorem cnd_cong {kd : Nat → Int32} {sc ln : Nat → Nat} {tx a b : Nat → Int32} {inn lst : Int32} {to p k : Nat} {B : Nat → Wy} (h : ∀ j, p ≤ j → j < to → a j = b j) : cnd kd sc ln tx a inn lst to B p k = cnd kd sc ln tx b inn lst to B p k := by
  unfold cnd
  by_cases hp : to < p + ln k
  · have e : ∀ c, cth kd sc ln tx c inn lst to B p k = none := fun c => by rw [cth, if_neg (by omega), if_pos hp]
    rw [e a, e b, ite_self, ite_self]
  · have e : lets tx a k (ln k) p ↔ lets tx b k (ln k) p := ⟨fun q i hi => by rw [← h (p + i) (by omega) (by omega)]; exact q i hi, fun q i hi => by rw [h (p + i) (by omega) (by omega)]; exact q i hi⟩
    by_cases q : lets tx a k (ln k) p
    · rw [if_pos q, if_pos (e.mp q)]
      rfl
    · rw [if_neg q, if_neg (fun z => q (e.mpr z))]
theorem fld_cong {kd : Nat → Int32} {sc ln : Nat → Nat} {tx a b : Nat → Int32} {inn lst : Int32} {to p : Nat} {B : Nat → Wy} (h : ∀ j, p ≤ j → j < to → a j = b j) : ∀ K, fld kd sc ln tx a inn lst to B p K = fld kd sc ln tx b inn lst to B p K := by
  intro K
  induction K with
  | zero => rfl
  | succ K ih => rw [fld, fld, ih, cnd_cong h]
theorem BF_cong {kd : Nat → Int32} {sc ln : Nat → Nat} {tx a b : Nat → Int32} {inn lst : Int32} {to ne : Nat} : ∀ d, (∀ j, to - d ≤ j → j < to → a j = b j) → BF kd sc ln tx a inn lst to ne d = BF kd sc ln tx b inn lst to ne d := by
  intro d
  induction d with
  | zero => intro _; funext p; rfl
  | succ d ih =>
    intro h
    have e := ih (fun j h1 h2 => h j (by omega) h2)
    funext p
    rw [BF, BF, e, fld_cong (fun j h1 h2 => h j h1 h2)]
theorem jout_cong {kd : Nat → Int32} {sc ln : Nat → Nat} {tx a b : Nat → Int32} {fr to ne : Nat} (h : ∀ j, fr ≤ j → j < to → a j = b j) : ∀ W, jout kd sc ln tx a fr to ne W = jout kd sc ln tx b fr to ne W := by
  have e0 : wl a (to - fr) fr = wl b (to - fr) fr := wl_cong _ _ (fun j h1 h2 => h j h1 (by omega))
  have e1 : ∀ w s, jdB kd ln tx a fr to w s = jdB kd ln tx b fr to w s := by
    intro w s
    unfold jdB jdP
    rw [e0]
  have e2 : ∀ acc w S, jin kd sc ln tx a fr to acc w S = jin kd sc ln tx b fr to acc w S := by
    intro acc w S
    induction S with
    | zero => rfl
    | succ S ih => rw [jin, jin, ih, e1]
  intro W
  induction W with
  | zero => rfl
  | succ W ih => rw [jout, jout, ih, e2]
theorem WR_cong {kd : Nat → Int32} {sc ln : Nat → Nat} {tx a b : Nat → Int32} {fr to ne : Nat} (h : ∀ j, fr ≤ j → j < to → a j = b j) : WR kd sc ln tx a fr to ne = WR kd sc ln tx b fr to ne := by
  have e : ∀ inn lst, wayP kd sc ln tx a inn lst to ne fr = wayP kd sc ln tx b inn lst to ne fr := by
    intro inn lst
    unfold wayP
    rw [BF_cong (to - fr) (fun j h1 h2 => h j (by omega) h2)]
  unfold WR
  rw [e, e, jout_cong h]
def nx (a : Nat → Int32) : Nat → Nat → Nat
  | 0, p => p
  | d + 1, p => if a p = 32 then p else nx a d (p + 1)
theorem nx_ok {a : Nat → Int32} : ∀ (d p : Nat), p ≤ nx a d p ∧ nx a d p ≤ p + d ∧ (∀ j, p ≤ j → j < nx a d p → ¬ a j = 32) ∧ (nx a d p = p + d ∨ a (nx a d p) = 32) := by
  intro d
  induction d with
  | zero => intro p; rw [nx]; exact ⟨Nat.le_refl p, Nat.le_refl p, fun j h1 h2 => by omega, Or.inl rfl⟩
  | succ d ih =>
    intro p
    by_cases h : a p = 32
    · rw [nx, if_pos h]; exact ⟨Nat.le_refl p, by omega, fun j h1 h2 => by omega, Or.inr h⟩
    · rw [nx, if_neg h]
      obtain ⟨h1, h2, h3, h4⟩ := ih (p + 1)
      refine ⟨by omega, by omega, fun j q1 q2 => ?_, ?_⟩
      · by_cases e : j = p
        · rw [e]; exact h
        · exact h3 j (by omega) q2
      · rcases h4 with h4 | h4
        · exact Or.inl (by omega)
        · exact Or.inr h4
theorem nx_cong {a b : Nat → Int32} : ∀ (d p : Nat), (∀ j, p ≤ j → j < p + d → a j = b j) → nx a d p = nx b d p := by
  intro d
  induction d with
  | zero => intro p _; rfl
  | succ d ih =>
    intro p h
    rw [nx, nx, h p (Nat.le_refl p) (by omega), ih (p + 1) (fun j h1 h2 => h j (by omega) (by omega))]
noncomputable def PW (kd : Nat → Int32) (sc ln : Nat → Nat) (tx ask : Nat → Int32) (n ne : Nat) : Nat → Nat → List Nat → Option (List Nat)
  | 0, _, es => some es
  | d + 1, fr, es => if n ≤ fr then some es else match WR kd sc ln tx ask fr (nx ask (n - fr) fr) ne with
    | none => none
    | some (_, l) => PW kd sc ln tx ask n ne d (nx ask (n - fr) fr + 1) (es ++ l)
section PWS
variable {kd : Nat → Int32} {sc ln : Nat → Nat} {tx ask : Nat → Int32} {n ne : Nat}
theorem PW_end {d fr : Nat} {es : List Nat} (h : n ≤ fr) : PW kd sc ln tx ask n ne d fr es = some es := by
  cases d with
  | zero => rfl
  | succ d => rw [PW, if_pos h]
theorem PW_no {d fr : Nat} {es : List Nat} (h : fr < n) (hw : WR kd sc ln tx ask fr (nx ask (n - fr) fr) ne = none) : PW kd sc ln tx ask n ne (d + 1) fr es = none := by
  rw [PW, if_neg (by omega), hw]
theorem PW_go {d fr s : Nat} {es l : List Nat} (h : fr < n) (hw : WR kd sc ln tx ask fr (nx ask (n - fr) fr) ne = some (s, l)) : PW kd sc ln tx ask n ne (d + 1) fr es = PW kd sc ln tx ask n ne d (nx ask (n - fr) fr + 1) (es ++ l) := by
  rw [PW, if_neg (by omega), hw]
end PWS
theorem PW_cong {kd : Nat → Int32} {sc ln : Nat → Nat} {tx a b : Nat → Int32} {n ne : Nat} (h : ∀ j, j < n → a j = b j) : ∀ (d fr : Nat) (es : List Nat), PW kd sc ln tx a n ne d fr es = PW kd sc ln tx b n ne d fr es := by
  intro d
  induction d with
  | zero => intro fr es; rfl
  | succ d ih =>
    intro fr es
    by_cases hf : n ≤ fr
    · rw [PW_end hf, PW_end hf]
    · have e1 : nx a (n - fr) fr = nx b (n - fr) fr := nx_cong _ _ (fun j h1 h2 => h j (by omega))
      have e3 := (nx_ok (a := b) (n - fr) fr).2.1
      have e2 : WR kd sc ln tx a fr (nx a (n - fr) fr) ne = WR kd sc ln tx b fr (nx b (n - fr) fr) ne := by
        rw [e1]
        exact WR_cong (fun j h1 h2 => h j (by omega))
      cases hw : WR kd sc ln tx b fr (nx b (n - fr) fr) ne with
      | none => rw [PW_no (by omega) hw, PW_no (by omega) (e2.trans hw)]
      | some x =>
        obtain ⟨s, l⟩ := x
        rw [PW_go (by omega) hw, PW_go (by omega) (e2.trans hw), e1]
        exact ih _ _
theorem cat_sum {sc : Nat → Nat} {st : Nat → Int32} : ∀ (ks : List Nat), (cat sc st ks).length = sumS sc ks := by
  intro ks
  induction ks with
  | nil => rfl
  | cons k ks ih => rw [cat, sumS, List.length_append, wl_len, ih]
theorem ar_es {a : Nat → Int32} {es : List Nat} {ne : Nat} (h : ar a (es.map nI)) (hm : ∀ k, k ∈ es → k < ne) : ∀ (q k : Nat), es[q]? = some k → a q = nI k ∧ k < ne := by
  intro q k hq
  refine ⟨h q _ ?_, hm k (List.mem_of_getElem? hq)⟩
  rw [List.getElem?_map, hq]
  rfl
theorem ar_cpyN {a b : Nat → Int32} {l : List Int32} (h : ar a l) : ar (va_cpy a b 0 0 l.length) l := by
  intro i x hx
  have hi : i < l.length := by
    rcases Nat.lt_or_ge i l.length with q | q
    · exact q
    · rw [List.getElem?_eq_none q] at hx; cases hx
  rw [pk_cpy_in (by omega) (by omega), show 0 + (i - 0) = i by omega]
  exact h i x hx
/-- word ahead: where a word begins -/
def wst (a : Nat → Int32) (n fr : Nat) : Prop := fr = n + 1 ∨ (fr < n ∧ ¬ a fr = 32)
theorem wst_0 {a : Nat → Int32} {n : Nat} (hn : 1 ≤ n) (h : okW a n) : wst a n 0 := by
  refine Or.inr ⟨hn, fun q => ?_⟩
  rcases h 0 hn with q1 | q1
  · exact sm_32 q1 q
  · omega
theorem wst_nx {a : Nat → Int32} {n fr : Nat} (h : okW a n) (hf : fr < n) : wst a n (nx a (n - fr) fr + 1) := by
  obtain ⟨h1, h2, h3, h4⟩ := nx_ok (a := a) (n - fr) fr
  rcases h4 with h4 | h4
  · exact Or.inl (by omega)
  · by_cases hn : nx a (n - fr) fr = n
    · exact Or.inl (by omega)
    · rcases h _ (show nx a (n - fr) fr < n by omega) with q | ⟨q1, q2, q3, q4⟩
      · exact absurd h4 (sm_32 q)
      · refine Or.inr ⟨q3, fun w => ?_⟩
        rcases h _ q3 with r | ⟨r1, r2, r3, r4⟩
        · exact sm_32 r w
        · rw [Nat.add_sub_cancel] at r4
          exact r4 h4

section MK
variable {N ne n : Nat} {kd : Nat → Int32} {sc : Nat → Nat} {st : Nat → Int32} {ln : Nat → Nat} {tx a : Nat → Int32} {ak asc ast al ax : Nat → Int32} {le ls lc us ur : Int32} {la te tf tk : Nat → Int32}
theorem mk_end {es : List Nat} {jw js t0 t1 t2 t3 t4 : Int32} {dr gc gp jb pc pp : Nat → Int32} (hN : 400 ≤ N) (hne : ne ≤ 60) (hd : dst ne sc st) (hs : scC ne sc st asc ast) (hl : es.length ≤ 60) (hm : ∀ k, k ∈ es → k < ne) (ha : ar dr (es.map nI)) : ∃ (lc' us' ur' : Int32) (la' te' tf' tk' : Nat → Int32), jf_Planner_make_b57 N (nI ne) asc ast (nI es.length) le ls lc jw js t0 t1 t2 t3 t4 us ur dr gc gp jb la pc pp te tf tk = some (1, nI es.length, nI es.length, nI (sumS sc es), lc', jw, js, t0, t1, t2, t3, t4, us', ur', dr, gc, gp, jb, la', pc, pp, te', tf', tk') ∧ ar la' (es.map nI) ∧ (clr ne sc st es → lc' = 1) ∧ (¬ clr ne sc st es → lc' = 0) := by
  have hes := ar_es ha hm
  obtain ⟨te', tf', tk', r1, r2, r3, r4⟩ := readDraft_ok (N := N) (ts := us) (rs := ur) (ea := te) (fa := tf) (t := tk) hl hne hN hd hs hes
  obtain ⟨z, z1, z2, z3⟩ := isDraftRead_ok (N := N) hl hne hN hd hes r2 r3 r4
  have hc := ar_cpyN (b := la) ha
  rw [List.length_map] at hc
  rw [jf_Planner_make_b57, r1, Option.bind_some]
  dsimp only
  rw [show ∀ q, jgc (α := Int32 × Int32 × Int32 × Int32 × Int32 × Int32 × Int32 × Int32 × Int32 × Int32 × Int32 × Int32 × Int32 × Int32 × (Nat → Int32) × (Nat → Int32) × (Nat → Int32) × (Nat → Int32) × (Nat → Int32) × (Nat → Int32) × (Nat → Int32) × (Nat → Int32) × (Nat → Int32) × (Nat → Int32)) 0 0 (nI es.length) 60 60 q = q from fun q => p_gc (a := 0) (b := 0) (by omega) (by omega) (by omega) (by omega), jf_Reading_size, Option.bind_some, z1, Option.bind_some, show (0 : Int32).toNatClampNeg = 0 from rfl, p_cl (by omega), cat_sum]
  by_cases h : clr ne sc st es
  · rw [z2 h, if_neg (by decide), jf_Planner_make_b110]
    exact ⟨1, _, _, _, _, _, _, rfl, hc, fun _ => rfl, fun q => absurd h q⟩
  · rw [z3 h, if_pos rfl, jf_Planner_make_b110]
    exact ⟨0, _, _, _, _, _, _, rfl, hc, fun q => absurd q h, fun _ => rfl⟩
theorem mk_scan {fr to : Nat} {dd : Int32} {jw js t0 t1 t2 t3 t4 : Int32} {dr gc gp jb pc pp : Nat → Int32} (hn : n ≤ 60) (hto : to ≤ n) : ∀ (d i g : Nat), i + d = to → (∀ j, i ≤ j → j < to → ¬ a j = 32) → jf_Planner_make_b9 N (nI n) (nI ne) 5 5 1 0 ak al ax asc ast a (g + d) (nI fr) (nI i) dd le ls lc jw js t0 t1 t2 t3 t4 us ur dr gc gp jb la pc pp te tf tk = jf_Planner_make_b9 N (nI n) (nI ne) 5 5 1 0 ak al ax asc ast a g (nI fr) (nI to) dd le ls lc jw js t0 t1 t2 t3 t4 us ur dr gc gp jb la pc pp te tf tk := by
  intro d
  induction d with
  | zero =>
    intro i g hi h
    rw [show i = to by omega]
    rfl
  | succ d ih =>
    intro i g hi h
    rw [← Nat.add_assoc, jf_Planner_make_b9, if_neg (p_nlt (by omega) (by omega)), if_neg (p_ne (by omega) (by omega) (by omega)), p_ga (by omega) (by omega), p_cl (by omega), if_neg (h i (Nat.le_refl i) (by omega)), jf_Planner_make_b51, nI_1]
    exact ih (i + 1) g (by omega) (fun j h1 h2 => h j (by omega) h2)
theorem mk_at {fr to g : Nat} {dd : Int32} {jw js t0 t1 t2 t3 t4 : Int32} {dr gc gp jb pc pp : Nat → Int32} (hn : n ≤ 60) (hto : to ≤ n) (h : to = n ∨ a to = 32) : jf_Planner_make_b9 N (nI n) (nI ne) 5 5 1 0 ak al ax asc ast a (g + 1) (nI fr) (nI to) dd le ls lc jw js t0 t1 t2 t3 t4 us ur dr gc gp jb la pc pp te tf tk = jf_Planner_make_b36 N (nI ne) 5 5 1 0 ak al ax asc a (jf_Planner_make_b9 N (nI n) (nI ne) 5 5 1 0 ak al ax asc ast a g) (nI fr) (nI to) dd le ls lc jw js t0 t1 t2 t3 t4 us ur dr gc gp jb la pc pp te tf tk := by
  rw [jf_Planner_make_b9, if_neg (p_nlt (by omega) (by omega))]
  by_cases e : to = n
  · rw [if_pos (by rw [e])]
  · rw [if_neg (p_ne e (by omega) (by omega)), p_ga (by omega) (by omega), p_cl (by omega), if_pos (h.resolve_left e)]
theorem mk_loop (hN : 9000 ≤ N) (hne : ne ≤ 60) (hn : n ≤ 60) (hok : okW a n) (hb1 : bkL ne kd sc ln 1 0) (hb5 : bkL ne kd sc ln 5 5) (hbJ : bkJ ne kd sc ln tx) (hA : rwC ne kd sc ln tx ak asc al ax) (hd : dst ne sc st) (hs : scC ne sc st asc ast) : ∀ (d fr g : Nat) (es : List Nat) (jw js t0 t1 t2 t3 t4 : Int32) (dr gc gp jb pc pp : Nat → Int32), wst a n fr → n + 1 ≤ fr + d → n + 2 ≤ fr + g → es.length ≤ fr → es.length ≤ n → (∀ k, k ∈ es → k < ne) → ar dr (es.map nI) → ∃ (z dd le' ls' lc' jw' js' t0' t1' t2' t3' t4' us' ur' : Int32) (dr' gc' gp' jb' la' pc' pp' te' tf' tk' : Nat → Int32), jf_Planner_make_b9 N (nI n) (nI ne) 5 5 1 0 ak al ax asc ast a g (nI fr) (nI fr) (nI es.length) le ls lc jw js t0 t1 t2 t3 t4 us ur dr gc gp jb la pc pp te tf tk = some (z, dd, le', ls', lc', jw', js', t0', t1', t2', t3', t4', us', ur', dr', gc', gp', jb', la', pc', pp', te', tf', tk') ∧ (PW kd sc ln tx a n ne d fr es = none → z = 0 ∧ le' = le ∧ ls' = ls ∧ lc' = lc ∧ la' = la) ∧ (∀ es', PW kd sc ln tx a n ne d fr es = some es' → z = 1 ∧ es'.length ≤ 60 ∧ le' = nI es'.length ∧ ls' = nI (sumS sc es') ∧ ar la' (es'.map nI) ∧ (clr ne sc st es' → lc' = 1) ∧ (¬ clr ne sc st es' → lc' = 0)) := by
  intro d
  induction d with
  | zero =>
    intro fr g es jw js t0 t1 t2 t3 t4 dr gc gp jb pc pp hw h1 h2 h3 h4 hm ha
    rcases hw with hw | ⟨hw, hw'⟩
    · obtain ⟨g, rfl⟩ : ∃ y, g = y + 1 := ⟨g - 1, by omega⟩
      obtain ⟨lc', us', ur', la', te', tf', tk', r1, r2, r3, r4⟩ := mk_end (N := N) (le := le) (ls := ls) (lc := lc) (us := us) (ur := ur) (la := la) (te := te) (tf := tf) (tk := tk) (jw := jw) (js := js) (t0 := t0) (t1 := t1) (t2 := t2) (t3 := t3) (t4 := t4) (dr := dr) (gc := gc) (gp := gp) (jb := jb) (pc := pc) (pp := pp) (by omega) hne hd hs (by omega) hm ha
      rw [jf_Planner_make_b9, if_pos (p_ylt (by omega) (by omega)), r1, PW_end (by omega)]
      refine ⟨1, _, _, _, _, _, _, _, _, _, _, _,  _, _, _, _, _, _, _, _, _, _, _, _, rfl, (fun q => by cases q), fun es' q => ?_⟩
      cases q
      exact ⟨rfl, by omega, rfl, rfl, r2, r3, r4⟩
    · omega
  | succ d ih =>
    intro fr g es jw js t0 t1 t2 t3 t4 dr gc gp jb pc pp hw h1 h2 h3 h4 hm ha
    rcases hw with hw | ⟨hw, hw'⟩
    · obtain ⟨g, rfl⟩ : ∃ y, g = y + 1 := ⟨g - 1, by omega⟩
      obtain ⟨lc', us', ur', la', te', tf', tk', r1, r2, r3, r4⟩ := mk_end (N := N) (le := le) (ls := ls) (lc := lc) (us := us) (ur := ur) (la := la) (te := te) (tf := tf) (tk := tk) (jw := jw) (js := js) (t0 := t0) (t1 := t1) (t2 := t2) (t3 := t3) (t4 := t4) (dr := dr) (gc := gc) (gp := gp) (jb := jb) (pc := pc) (pp := pp) (by omega) hne hd hs (by omega) hm ha
      rw [jf_Planner_make_b9, if_pos (p_ylt (by omega) (by omega)), r1, PW_end (by omega)]
      refine ⟨1, _, _, _, _, _, _, _, _, _, _, _,  _, _, _, _, _, _, _, _, _, _, _, _, rfl, (fun q => by cases q), fun es' q => ?_⟩
      cases q
      exact ⟨rfl, by omega, rfl, rfl, r2, r3, r4⟩
    · obtain ⟨to, hto⟩ : ∃ to, to = nx a (n - fr) fr := ⟨_, rfl⟩
      obtain ⟨n1, n2, n3, n4⟩ := nx_ok (a := a) (n - fr) fr
      have hw2 := wst_nx hok hw
      rw [← hto] at n1 n2 n3 n4 hw2
      have n5 : to = n ∨ a to = 32 := by
        rcases n4 with n4 | n4
        · exact Or.inl (by omega)
        · exact Or.inr n4
      have hft : fr < to := by
        rcases Nat.lt_or_ge fr to with q | q
        · exact q
        · rcases n5 with n5 | n5
          · omega
          · rw [show to = fr by omega] at n5
            exact absurd n5 hw'
      obtain ⟨g, rfl⟩ : ∃ y, g = y + 1 + (to - fr) := ⟨g - 1 - (to - fr), by omega⟩
      obtain ⟨z, dd, jw', js', t0', t1', t2', t3', t4', dr', gc', gp', jb', pc', pp', r1, r2, r3⟩ := draftWord_ok (N := N) (es := es) (ask := a) (wo := jw) (su := js) (c0 := t0) (c1 := t1) (c2 := t2) (L0 := t3) (V0 := t4) (dr := dr) (gc := gc) (gp := gp) (tb := jb) (pc := pc) (pp := pp) hN hne (show to ≤ 60 by omega) hft hb1 hb5 hbJ hA (by omega) ha
      rw [mk_scan hn (by omega) (to - fr) fr (g + 1) (by omega) n3, mk_at hn (by omega) n5, jf_Planner_make_b36, r1, Option.bind_some]
      dsimp only
      cases hwr : WR kd sc ln tx a fr to ne with
      | none =>
        rw [r2 hwr, if_pos rfl, PW_no hw (by rw [← hto]; exact hwr)]
        exact ⟨0, _, _, _, _, _, _, _, _, _, _, _, _, _, _, _, _, _, _, _, _, _, _, _, rfl, fun _ => ⟨rfl, rfl, rfl, rfl, rfl⟩, fun es' q => by cases q⟩
      | some x =>
        obtain ⟨s, l⟩ := x
        obtain ⟨y1, y2, y3⟩ := r3 s l hwr
        obtain ⟨-, y4, -, -, y5⟩ := WR_sm (ask := a) (fr := fr) hne (show to ≤ 60 by omega) hb1 hb5 hbJ s l hwr
        have hlen : (es ++ l).length = es.length + l.length := List.length_append
        rw [y1, if_neg (by decide), jf_Planner_make_b51, nI_1, y2, PW_go hw (by rw [← hto]; exact hwr), ← hto]
        refine ih (to + 1) g (es ++ l) _ _ _ _ _ _ _ _ _ _ _ _ _ hw2 (by omega) (by omega) (by omega) (by omega) (fun k hk => ?_) y3
        rcases List.mem_append.mp hk with q | q
        · exact hm k q
        · exact y5 k q
end MK
