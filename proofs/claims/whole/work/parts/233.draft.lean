/-! the class reads a row of entries -/
theorem ar_cpy0 {t : Nat → Int32} {l : List Int32} {n m : Nat} (h : ar t l) : ar (va_cpy t t n m (n - n)) l := by
  intro i x hx
  have e : va_cpy t t n m (n - n) i = t i := by
    unfold va_cpy
    rw [if_neg (by omega)]
  rw [e]
  exact h i x hx
section CRD
variable {N ne : Nat} {sc : Nat → Nat} {st asc ast a : Nat → Int32}
theorem crd_in {k9 : Int32 → Int32 → Int32 → (Nat → Int32) → (Nat → Int32) → (Nat → Int32) → Option (Int32 × Int32 × (Nat → Int32) × (Nat → Int32) × (Nat → Int32))} {i k n : Nat} {rs : Int32} {ea fa : Nat → Int32} (hi : i < 60) (hk : k < ne) (hne : ne ≤ 60) (ha : a i = nI k) (hsm : asc k = nI n) (hn : n ≤ 5) : ∀ (d j g : Nat) (l : List Int32) (t : Nat → Int32), j + d = n → d < g → ar t l → l.length + d ≤ 300 → ∃ t', jf_Planner_readDraft_b19 (nI ne) asc ast a k9 g (nI i) (nI j) (nI l.length) rs ea fa t = k9 (nI (i + 1)) (nI (l ++ wl (fun j => ast (5 * k + j)) d j).length) rs ea fa t' ∧ ar t' (l ++ wl (fun j => ast (5 * k + j)) d j) := by
  intro d
  induction d with
  | zero =>
    intro j g l t hj hg ht hl
    obtain ⟨g, rfl⟩ : ∃ y, g = y + 1 := ⟨g - 1, by omega⟩
    refine ⟨t, ?_, by rw [wl, List.append_nil]; exact ht⟩
    rw [jf_Planner_readDraft_b19, p_ga (by omega) (by omega), p_cl (by omega), ha, Book_strokesOf_in hk hne, hsm, Option.bind_some, if_pos (p_yle (by omega) (by omega)), jf_Planner_readDraft_b70, nI_1, wl, List.append_nil]
  | succ d ih =>
    intro j g l t hj hg ht hl
    obtain ⟨g, rfl⟩ : ∃ y, g = y + 1 := ⟨g - 1, by omega⟩
    obtain ⟨t', h1, h2⟩ := ih (j + 1) g (l ++ [ast (5 * k + j)]) (upd (va_cpy t t l.length (l.length + 1) (l.length - l.length)) l.length (ast (5 * k + j))) (by omega) (by omega) (ar_push (ar_cpy0 ht)) (by rw [List.length_append, List.length_singleton]; omega)
    rw [List.append_assoc, List.singleton_append] at h1 h2
    rw [List.length_append (as := l) (bs := [ast (5 * k + j)]), List.length_singleton] at h1
    refine ⟨t', ?_, h2⟩
    rw [jf_Planner_readDraft_b19, p_ga (by omega) (by omega), p_cl (by omega), ha, Book_strokesOf_in hk hne, hsm, Option.bind_some, if_neg (p_nle (by omega) (by omega)), jf_Reading_size, Option.bind_some, p_ga (by omega) (by omega), Book_strokeAt_in hk hne hsm (by omega) hn, Option.bind_some, Reading_put_ok (Nat.le_refl _) (by omega), Option.bind_some]
    dsimp only
    rw [nI_1]
    exact h1
theorem crd_out {n : Nat} {rs : Int32} {ea fa : Nat → Int32} (hn : n ≤ 60) (hne : ne ≤ 60) (hN : 400 ≤ N) (hs : ∀ k, k < ne → asc k = nI (sc k) ∧ 1 ≤ sc k ∧ sc k ≤ 5 ∧ ∀ j, j < sc k → ast (5 * k + j) = st (5 * k + j)) : ∀ (ks : List Nat) (i g : Nat) (l : List Int32) (t : Nat → Int32), (∀ (q k : Nat), ks[q]? = some k → a (i + q) = nI k ∧ k < ne) → i + ks.length = n → ks.length < g → ar t l → l.length + (cat sc st ks).length ≤ 300 → ∃ t', jf_Planner_readDraft_b9 N (nI n) (nI ne) asc ast a g (nI i) (nI l.length) rs ea fa t = jf_Planner_readDraft_b76 N (nI ne) asc ast (nI (l ++ cat sc st ks).length) rs ea fa t' ∧ ar t' (l ++ cat sc st ks) := by
  intro ks
  induction ks with
  | nil =>
    intro i g l t hk hi hg ht hl
    obtain ⟨g, rfl⟩ : ∃ y, g = y + 1 := ⟨g - 1, by omega⟩
    rw [List.length_nil] at hi
    refine ⟨t, ?_, by rw [cat, List.append_nil]; exact ht⟩
    rw [jf_Planner_readDraft_b9, if_pos (p_yle (by omega) (by omega)), cat, List.append_nil]
  | cons k ks ih =>
    intro i g l t hk hi hg ht hl
    obtain ⟨g, rfl⟩ : ∃ y, g = y + 1 := ⟨g - 1, by omega⟩
    rw [List.length_cons] at hi hg
    obtain ⟨k1, k2⟩ := hk 0 k rfl
    obtain ⟨s1, s2, s3, s4⟩ := hs k k2
    rw [cat, List.length_append, wl_len] at hl
    obtain ⟨t1, h1, h2⟩ := crd_in (ast := ast) (rs := rs) (ea := ea) (fa := fa) (k9 := jf_Planner_readDraft_b9 N (nI n) (nI ne) asc ast a g) (i := i) (k := k) (n := sc k) (by omega) k2 hne k1 s1 s3 (sc k) 0 N l t (by omega) (by omega) ht (by omega)
    have e1 : wl (fun j => ast (5 * k + j)) (sc k) 0 = wl (fun j => st (5 * k + j)) (sc k) 0 := wl_cong _ _ (fun j _ hj => s4 j (by omega))
    rw [e1] at h1 h2
    obtain ⟨t2, h3, h4⟩ := ih (i + 1) g (l ++ wl (fun j => st (5 * k + j)) (sc k) 0) t1 (fun q k' hq => by rw [show i + 1 + q = i + (q + 1) by omega]; exact hk (q + 1) k' hq) (by omega) (by omega) h2 (by rw [List.length_append, wl_len]; omega)
    rw [List.append_assoc] at h3 h4
    refine ⟨t2, ?_, by rw [cat]; exact h4⟩
    rw [jf_Planner_readDraft_b9, if_neg (p_nle (by omega) (by omega)), cat, ← h3]
    exact h1
theorem readDraft_ok {es : List Nat} {ts rs : Int32} {ea fa t : Nat → Int32} (hn : es.length ≤ 60) (hne : ne ≤ 60) (hN : 400 ≤ N) (hd : dst ne sc st) (hs : ∀ k, k < ne → asc k = nI (sc k) ∧ 1 ≤ sc k ∧ sc k ≤ 5 ∧ ∀ j, j < sc k → ast (5 * k + j) = st (5 * k + j)) (ha : ∀ (q k : Nat), es[q]? = some k → a q = nI k ∧ k < ne) : ∃ ea' fa' t', jf_Planner_readDraft N (nI es.length) (nI ne) asc ast a ts rs ea fa t = some (nI (cat sc st es).length, nI (cat sc st es).length, ea', fa', t') ∧ ar t' (cat sc st es) ∧ rdI ne sc st t' (cat sc st es).length fa' ea' ∧ (cat sc st es).length ≤ 300 := by
  have hes : ∀ k, k ∈ es → k < ne := by
    intro k hk
    obtain ⟨q, hq⟩ := List.mem_iff_getElem?.mp hk
    exact (ha q k hq).2
  have hc := cat_len (sc := sc) (st := st) es (fun k hk => (hs k (hes k hk)).2.2.1)
  obtain ⟨t1, h1, h2⟩ := crd_out (asc := asc) (ast := ast) (a := a) (rs := nI 0) (ea := ea) (fa := fa) hn hne hN hs es 0 N [] t (fun q k h => by rw [Nat.zero_add]; exact ha q k h) (by omega) (by omega) ar_nil (by rw [List.length_nil]; omega)
  rw [List.nil_append] at h1 h2
  obtain ⟨ea', fa', r1, r2⟩ := read_ok (N := N) (row := t1) (ea := ea) (fa := fa) (n := (cat sc st es).length) (q := 0) hN hne hd (by omega) (Nat.zero_le _) hs (fun j hj => absurd hj (Nat.not_lt_zero j))
  refine ⟨ea', fa', t1, ?_, h2, r2, by omega⟩
  rw [jf_Planner_readDraft, jf_Reading_empty, Option.bind_some]
  dsimp only
  rw [show jf_Planner_readDraft_b9 N (nI es.length) (nI ne) asc ast a N 0 0 0 ea fa t = _ from h1, jf_Planner_readDraft_b76, r1, Option.bind_some]
theorem idr_loop {row fa ea : Nat → Int32} {n : Nat} (hne : ne ≤ 60) (hn : n ≤ 300) (hI : rdI ne sc st row n fa ea) : ∀ (rs : List Nat) (m g : Nat), m ≤ n → rs.length < g → rs.length ≤ 60 → arR a rs → (∀ k, k ∈ rs → k < ne) → ∃ z, jf_Planner_isDraftRead_b17 (nI n) a ea fa g (nI m - 1) (nI rs.length - 1) = some z ∧ ((RD ne sc st row m).map Prod.snd = rs.map some → z = 1) ∧ (¬ (RD ne sc st row m).map Prod.snd = rs.map some → z = 0) := by
  intro rs
  induction rs with
  | nil =>
    intro m g hm hg h60 ha hb
    obtain ⟨g, rfl⟩ : ∃ y, g = y + 1 := ⟨g - 1, by omega⟩
    rw [jf_Planner_isDraftRead_b17, if_pos (show nI ([] : List Nat).length - 1 < 0 from by decide), jf_Planner_isDraftRead_b57]
    rcases Nat.eq_zero_or_pos m with h0 | h0
    · subst h0
      rw [if_pos (show nI 0 - 1 = -1 from by decide)]
      exact ⟨1, rfl, fun _ => rfl, fun h => absurd (by rw [RD]; rfl) h⟩
    · obtain ⟨f, e, hf, hR⟩ := RD_top (ne := ne) (sc := sc) (st := st) (row := row) h0
      rw [p_s1 h0, if_neg (show ¬ nI (m - 1) = -1 from fun q => cast (p_m1 (n := m - 1) (by omega)) q)]
      refine ⟨0, rfl, fun h => ?_, fun _ => rfl⟩
      rw [hR] at h
      cases h
  | cons k rs ih =>
    intro m g hm hg h60 ha hb
    obtain ⟨g, rfl⟩ : ∃ y, g = y + 1 := ⟨g - 1, by omega⟩
    rw [List.length_cons] at hg h60
    obtain ⟨a1, a2⟩ := ha
    have hk := hb k List.mem_cons_self
    rw [jf_Planner_isDraftRead_b17, List.length_cons, p_s1 (by omega), Nat.add_sub_cancel, if_neg (p_n0 (by omega))]
    rcases Nat.eq_zero_or_pos m with h0 | h0
    · subst h0
      rw [jf_Reading_entryAt, if_pos (show nI 0 - 1 < 0 from by decide), Option.bind_some, p_ga (by omega) (by omega), p_cl (by omega), a1, if_neg (show ¬ (-1 : Int32) = nI k from fun q => cast (p_m1b (n := k) (by omega)) q)]
      refine ⟨0, rfl, fun h => ?_, fun _ => rfl⟩
      rw [RD] at h
      cases h
    · obtain ⟨f, e, hf, hR⟩ := RD_top (ne := ne) (sc := sc) (st := st) (row := row) h0
      obtain ⟨r1, r2⟩ := rdI_at hI hm h0 hR
      rw [jf_Reading_entryAt, p_s1 h0, if_neg (p_n0 (by omega)), if_neg (p_nle (by omega) (by omega)), p_ga (by omega) (by omega), Option.bind_some, p_ga (by omega) (by omega), p_cl (by omega), p_cl (by omega), a1, r2]
      by_cases he : e = some k
      · subst he
        obtain ⟨z, z1, z2, z3⟩ := ih f g (by omega) (by omega) (by omega) a2 (fun q h => hb q (List.mem_cons_of_mem _ h))
        rw [if_pos (show oI (some k) = nI k from rfl), jf_Reading_firstAt, if_neg (p_n0 (by omega)), if_neg (p_nle (by omega) (by omega)), p_ga (by omega) (by omega), p_cl (by omega), Option.bind_some, r1, ← p_sm (nI rs.length)]
        refine ⟨z, z1, fun h => z2 ?_, fun h => z3 (fun w => h ?_)⟩
        · rw [hR, List.map_cons, List.map_cons] at h
          injection h
        · rw [hR, List.map_cons, List.map_cons, w]
      · have hne' : ¬ oI e = nI k := by
          cases e with
          | none => exact fun q => cast (p_m1b (n := k) (by omega)) q
          | some k' =>
            have hk' : k' < ne := RD_ents m (by rw [hR]; exact List.mem_cons_self)
            exact fun q => he (by rw [(nI_eq (by omega) (by omega)).mp q])
        rw [if_neg hne']
        refine ⟨0, rfl, fun h => ?_, fun _ => rfl⟩
        rw [hR, List.map_cons, List.map_cons] at h
        injection h with h1 h2
        exact absurd h1 he
theorem isDraftRead_ok {es : List Nat} {ea fa t : Nat → Int32} (hn : es.length ≤ 60) (hne : ne ≤ 60) (hN : 400 ≤ N) (hd : dst ne sc st) (ha : ∀ (q k : Nat), es[q]? = some k → a q = nI k ∧ k < ne) (h1 : ar t (cat sc st es)) (h2 : rdI ne sc st t (cat sc st es).length fa ea) (h3 : (cat sc st es).length ≤ 300) : ∃ z, jf_Planner_isDraftRead N (nI es.length) (nI (cat sc st es).length) a ea fa = some z ∧ (clr ne sc st es → z = 1) ∧ (¬ clr ne sc st es → z = 0) := by
  have hes : ∀ k, k ∈ es → k < ne := by
    intro k hk
    obtain ⟨q, hq⟩ := List.mem_iff_getElem?.mp hk
    exact (ha q k hq).2
  have hrev := arR_of (a := a) es.reverse (fun q k h => by rw [List.reverse_reverse] at h; exact (ha q k h).1)
  have hR := RD_cat hd h1
  obtain ⟨z, z1, z2, z3⟩ := idr_loop (a := a) hne h3 h2 es.reverse (cat sc st es).length N (Nat.le_refl _) (by rw [List.length_reverse]; omega) (by rw [List.length_reverse]; exact hn) hrev (fun k h => hes k (List.mem_reverse.mp h))
  rw [List.length_reverse] at z1
  rw [hR] at z2 z3
  refine ⟨z, ?_, z2, z3⟩
  rw [jf_Planner_isDraftRead, jf_Reading_size, Option.bind_some]
  exact z1
end CRD
