/-! the strokes of a row of entries, read -/
theorem jgb_0 {α : Type} {k : Option α} : jgb 0 k = k := if_pos (Or.inl rfl)
theorem jgb_1 {α : Type} {k : Option α} : jgb 1 k = k := if_pos (Or.inr rfl)
/-- the strokes of these entries -/
def cat (sc : Nat → Nat) (st : Nat → Int32) : List Nat → List Int32
  | [] => []
  | k :: ks => wl (fun j => st (5 * k + j)) (sc k) 0 ++ cat sc st ks
theorem cat_len {sc : Nat → Nat} {st : Nat → Int32} : ∀ (ks : List Nat), (∀ k, k ∈ ks → sc k ≤ 5) → (cat sc st ks).length ≤ 5 * ks.length := by
  intro ks
  induction ks with
  | nil => intro _; exact Nat.le_refl 0
  | cons k ks ih =>
    intro h
    have h1 := ih (fun q hq => h q (List.mem_cons_of_mem _ hq))
    have h2 := h k List.mem_cons_self
    rw [cat, List.length_append, wl_len, List.length_cons]
    omega
/-- a row holds a list, the last one first -/
def arR (a : Nat → Int32) : List Nat → Prop
  | [] => True
  | k :: rs => a rs.length = nI k ∧ arR a rs
theorem arR_of {a : Nat → Int32} : ∀ (rs : List Nat), (∀ (t k : Nat), rs.reverse[t]? = some k → a t = nI k) → arR a rs := by
  intro rs
  induction rs with
  | nil => intro _; trivial
  | cons k rs ih =>
    intro h
    refine ⟨h rs.length k ?_, ih (fun t k' ht => h t k' ?_)⟩
    · rw [List.reverse_cons, List.getElem?_append_right (by rw [List.length_reverse]; exact Nat.le_refl _), List.length_reverse, Nat.sub_self]
      rfl
    · have hlt : t < rs.reverse.length := by
        rcases Nat.lt_or_ge t rs.reverse.length with q | q
        · exact q
        · rw [List.getElem?_eq_none q] at ht
          cases ht
      rw [List.reverse_cons, List.getElem?_append_left hlt]
      exact ht
section IR
variable {ne : Nat} {sc : Nat → Nat} {st row : Nat → Int32}
theorem RD_ents : ∀ (n : Nat) {q k : Nat}, (q, some k) ∈ RD ne sc st row n → k < ne := by
  intro n
  induction n using Nat.strongRecOn with
  | _ n ih =>
    intro q k hq
    rcases Nat.eq_zero_or_pos n with h0 | h0
    · subst h0
      rw [RD] at hq
      cases hq
    · obtain ⟨f, e, hf, hR⟩ := RD_top (ne := ne) (sc := sc) (st := st) (row := row) h0
      rw [hR] at hq
      rcases List.mem_cons.mp hq with z | z
      · injection z with z1 z2
        obtain ⟨m, rfl⟩ : ∃ m, n = m + 1 := ⟨n - 1, by omega⟩
        rw [← z2] at hR
        exact RD_ent hR
      · exact ih f hf z
/-- the strokes of these entries are read as just these -/
def clr (ne : Nat) (sc : Nat → Nat) (st : Nat → Int32) (es : List Nat) : Prop := (RD ne sc st (fun i => (cat sc st es).getD i 0) (cat sc st es).length).map Prod.snd = es.reverse.map some
theorem RD_cat {es : List Nat} {t : Nat → Int32} (hd : dst ne sc st) (h : ar t (cat sc st es)) : RD ne sc st t (cat sc st es).length = RD ne sc st (fun i => (cat sc st es).getD i 0) (cat sc st es).length := by
  refine RD_cong hd _ (fun j hj => ?_)
  rw [ar_at h hj]
  exact (List.getElem_eq_getD 0)
end IR
theorem stk_eq {a ea fa : Nat → Int32} : ∀ (L : List (Nat × Option Nat)) (rs : List Nat), stk fa ea L → arR a rs → L.length = rs.length → (∀ q k, (q, some k) ∈ L → k < 60) → (∀ k, k ∈ rs → k < 60) → ((∀ i, i < rs.length → ea i = a i) ↔ L.map Prod.snd = rs.map some) := by
  intro L
  induction L with
  | nil =>
    intro rs _ _ hl _ _
    cases rs with
    | nil => exact ⟨fun _ => rfl, fun _ i hi => absurd hi (Nat.not_lt_zero i)⟩
    | cons k rs => cases hl
  | cons q L ih =>
    intro rs hs ha hl b1 b2
    obtain ⟨f, e⟩ := q
    cases rs with
    | nil => cases hl
    | cons k rs =>
      obtain ⟨s1, s2, s3⟩ := hs
      obtain ⟨a1, a2⟩ := ha
      have hl' : L.length = rs.length := by
        rw [List.length_cons, List.length_cons] at hl
        omega
      have hk := b2 k List.mem_cons_self
      have hih := ih rs s3 a2 hl' (fun q k' h => b1 q k' (List.mem_cons_of_mem _ h)) (fun k' h => b2 k' (List.mem_cons_of_mem _ h))
      have he : oI e = nI k ↔ e = some k := by
        cases e with
        | none => exact ⟨fun h => absurd h (fun z => cast (p_m1b (n := k) (by omega)) z), fun h => by cases h⟩
        | some k' =>
          have hk' := b1 f k' List.mem_cons_self
          exact ⟨fun h => by rw [(nI_eq (by omega) (by omega)).mp h], fun h => by cases h; rfl⟩
      rw [List.map_cons, List.map_cons]
      constructor
      · intro h
        have h1 := h rs.length (by rw [List.length_cons]; omega)
        rw [a1, ← hl', s2] at h1
        rw [he.mp h1, hih.mp (fun i hi => h i (by rw [List.length_cons]; omega))]
      · intro h
        injection h with h1 h2
        intro i hi
        rcases Nat.lt_or_ge i rs.length with q | q
        · exact hih.mpr h2 i q
        · have hi' : i = rs.length := by rw [List.length_cons] at hi; omega
          rw [hi', a1, ← hl', s2]
          exact he.mpr h1
section IRtwo
variable {N ne : Nat} {sc : Nat → Nat} {st sm ss a : Nat → Int32} {tr : Int32} {ea fa : Nat → Int32}
theorem ird_in_two {k5 : Int32 → Int32 → Int32 → (Nat → Int32) → (Nat → Int32) → (Nat → Int32) → Option (Int32 × Int32 × (Nat → Int32) × (Nat → Int32) × (Nat → Int32))} {i k n : Nat} (hi : i < 2) (hk : k < 60) (ha : a i = nI k) (hsm : sm k = nI n) (hn : n ≤ 5) : ∀ (d j g : Nat) (l : List Int32) (t : Nat → Int32), j + d = n → d < g → ar t l → l.length + d ≤ 300 → ∃ t', jf_Model_isRead_two_b14 sm ss a k5 g (nI l.length) (nI i) (nI j) tr ea fa t = k5 (nI (l ++ wl (fun j => ss (5 * k + j)) d j).length) (nI (i + 1)) tr ea fa t' ∧ ar t' (l ++ wl (fun j => ss (5 * k + j)) d j) := by
  intro d
  induction d with
  | zero =>
    intro j g l t hj hg ht hl
    obtain ⟨g, rfl⟩ : ∃ y, g = y + 1 := ⟨g - 1, by omega⟩
    refine ⟨t, ?_, by rw [wl, List.append_nil]; exact ht⟩
    rw [jf_Model_isRead_two_b14, p_ga (by omega) (by omega), p_cl (by omega), ha, p_ga (by omega) (by omega), p_cl (by omega), hsm, if_pos (p_yle (by omega) (by omega)), jf_Model_isRead_two_b58, nI_1, wl, List.append_nil]
  | succ d ih =>
    intro j g l t hj hg ht hl
    obtain ⟨g, rfl⟩ : ∃ y, g = y + 1 := ⟨g - 1, by omega⟩
    obtain ⟨t', h1, h2⟩ := ih (j + 1) g (l ++ [ss (5 * k + j)]) (upd t l.length (ss (5 * k + j))) (by omega) (by omega) (ar_push ht) (by rw [List.length_append, List.length_singleton]; omega)
    rw [List.append_assoc, List.singleton_append] at h1 h2
    rw [List.length_append (as := l) (bs := [ss (5 * k + j)]), List.length_singleton] at h1
    refine ⟨t', ?_, h2⟩
    rw [jf_Model_isRead_two_b14, p_ga (by omega) (by omega), p_cl (by omega), ha, p_ga (by omega) (by omega), p_cl (by omega), hsm, if_neg (p_nle (by omega) (by omega)), p_ga (by omega) (by omega), show (5 : Int32) = nI 5 from rfl, pk_mul, nI_add, p_ga (by omega) (by omega), p_ga (by omega) (by omega), p_cl (by omega), p_cl (by omega), nI_1, nI_1]
    exact h1
theorem ird_out_two {n : Nat} (hn : n ≤ 2) (hne : ne ≤ 60) (hN : 400 ≤ N) (hs : ∀ k, k < ne → sm k = nI (sc k) ∧ sc k ≤ 5 ∧ ∀ i, i < sc k → ss (5 * k + i) = st (5 * k + i)) : ∀ (ks : List Nat) (i g : Nat) (l : List Int32) (t : Nat → Int32), (∀ (q k : Nat), ks[q]? = some k → a (i + q) = nI k ∧ k < ne) → i + ks.length = n → ks.length < g → ar t l → l.length + (cat sc st ks).length ≤ 300 → ∃ t', jf_Model_isRead_two_b5 N (nI n) (nI ne) sm ss a g (nI l.length) (nI i) tr ea fa t = jf_Model_isRead_two_b64 N (nI n) (nI ne) sm ss a (nI (l ++ cat sc st ks).length) tr ea fa t' ∧ ar t' (l ++ cat sc st ks) := by
  intro ks
  induction ks with
  | nil =>
    intro i g l t hk hi hg ht hl
    obtain ⟨g, rfl⟩ : ∃ y, g = y + 1 := ⟨g - 1, by omega⟩
    rw [List.length_nil] at hi
    refine ⟨t, ?_, by rw [cat, List.append_nil]; exact ht⟩
    rw [jf_Model_isRead_two_b5, if_pos (p_yle (by omega) (by omega)), cat, List.append_nil]
  | cons k ks ih =>
    intro i g l t hk hi hg ht hl
    obtain ⟨g, rfl⟩ : ∃ y, g = y + 1 := ⟨g - 1, by omega⟩
    rw [List.length_cons] at hi hg
    obtain ⟨k1, k2⟩ := hk 0 k rfl
    obtain ⟨s1, s2, s3⟩ := hs k k2
    rw [cat, List.length_append, wl_len] at hl
    obtain ⟨t1, h1, h2⟩ := ird_in_two (sm := sm) (ss := ss) (a := a) (tr := tr) (ea := ea) (fa := fa) (k5 := jf_Model_isRead_two_b5 N (nI n) (nI ne) sm ss a g) (i := i) (k := k) (n := sc k) (by omega) (by omega) k1 s1 s2 (sc k) 0 N l t (by omega) (by omega) ht (by omega)
    have e1 : wl (fun j => ss (5 * k + j)) (sc k) 0 = wl (fun j => st (5 * k + j)) (sc k) 0 := wl_cong _ _ (fun j _ hj => s3 j (by omega))
    rw [e1] at h1 h2
    obtain ⟨t2, h3, h4⟩ := ih (i + 1) g (l ++ wl (fun j => st (5 * k + j)) (sc k) 0) t1 (fun q k' hq => by rw [show i + 1 + q = i + (q + 1) by omega]; exact hk (q + 1) k' hq) (by omega) (by omega) h2 (by rw [List.length_append, wl_len]; omega)
    rw [List.append_assoc] at h3 h4
    refine ⟨t2, ?_, by rw [cat]; exact h4⟩
    rw [jf_Model_isRead_two_b5, if_neg (p_nle (by omega) (by omega)), cat, ← h3]
    exact h1
theorem ird_z_two {n g i : Nat} {t : Nat → Int32} : jf_Model_isRead_two_b91 (nI n) a (g + 1) 0 (nI i) tr ea fa t = some (0, tr, ea, fa, t) := by
  rw [jf_Model_isRead_two_b91, jgb_0]
  by_cases h : nI n ≤ nI i
  · rw [if_pos h]
  · rw [if_neg h, if_pos rfl]
theorem ird_cmp_two {n : Nat} {t : Nat → Int32} (hn : n ≤ 2) : ∀ (d i g : Nat), i + d = n → d + 1 < g → (∀ q, q < i → ea q = a q) → ∃ z, jf_Model_isRead_two_b91 (nI n) a g 1 (nI i) tr ea fa t = some (z, tr, ea, fa, t) ∧ ((∀ q, q < n → ea q = a q) → z = 1) ∧ ((¬ ∀ q, q < n → ea q = a q) → z = 0) := by
  intro d
  induction d with
  | zero =>
    intro i g hi hg hq
    obtain ⟨g, rfl⟩ : ∃ y, g = y + 1 := ⟨g - 1, by omega⟩
    have hin : i = n := by omega
    subst hin
    refine ⟨1, ?_, fun _ => rfl, fun h => absurd hq h⟩
    rw [jf_Model_isRead_two_b91, if_pos (p_yle (by omega) (by omega)), jgb_1]
  | succ d ih =>
    intro i g hi hg hq
    obtain ⟨g, rfl⟩ : ∃ y, g = y + 1 + 1 := ⟨g - 2, by omega⟩
    by_cases he : ea i = a i
    · obtain ⟨z, z1, z2⟩ := ih (i + 1) (g + 1) (by omega) (by omega) (fun q h => by
        rcases Nat.lt_or_ge q i with w | w
        · exact hq q w
        · rw [show q = i by omega]; exact he)
      refine ⟨z, ?_, z2⟩
      rw [jf_Model_isRead_two_b91, if_neg (p_nle (by omega) (by omega)), if_neg (by decide), p_ga (by omega) (by omega), p_ga (by omega) (by omega), p_cl (by omega), if_pos he, jf_Model_isRead_two_b121, nI_1]
      exact z1
    · refine ⟨0, ?_, fun h => absurd (h i (by omega)) he, fun _ => rfl⟩
      rw [jf_Model_isRead_two_b91, if_neg (p_nle (by omega) (by omega)), if_neg (by decide), p_ga (by omega) (by omega), p_ga (by omega) (by omega), p_cl (by omega), if_neg he, jf_Model_isRead_two_b121, nI_1, ird_z_two]
theorem isRead_two {es : List Nat} {t : Nat → Int32} (hn : es.length ≤ 2) (hne : ne ≤ 60) (hN : 400 ≤ N) (hd : dst ne sc st) (hs : ∀ k, k < ne → sm k = nI (sc k) ∧ sc k ≤ 5 ∧ ∀ i, i < sc k → ss (5 * k + i) = st (5 * k + i)) (ha : ∀ (q k : Nat), es[q]? = some k → a q = nI k ∧ k < ne) : ∃ z tr' ea' fa' t', jf_Model_isRead_two N (nI es.length) (nI ne) sm ss a tr ea fa t = some (z, tr', ea', fa', t') ∧ (clr ne sc st es → z = 1) ∧ (¬ clr ne sc st es → z = 0) := by
  have hes : ∀ k, k ∈ es → k < ne := by
    intro k hk
    obtain ⟨q, hq⟩ := List.mem_iff_getElem?.mp hk
    exact (ha q k hq).2
  have hc := cat_len (sc := sc) (st := st) es (fun k hk => (hs k (hes k hk)).2.1)
  obtain ⟨t1, h1, h2⟩ := ird_out_two (sm := sm) (ss := ss) (a := a) (tr := tr) (ea := ea) (fa := fa) hn hne hN hs es 0 N [] t (fun q k h => by rw [Nat.zero_add]; exact ha q k h) (by omega) (by omega) ar_nil (by rw [List.length_nil]; omega)
  rw [List.nil_append] at h1 h2
  obtain ⟨ea', fa', r1, r2, r3⟩ := reads_trial (N := N) (row := t1) (tr := tr) (ea := ea) (fa := fa) hne hN hd hs (n := (cat sc st es).length) (by omega)
  have hR := RD_cat hd h2
  have hL := RD_len (ne := ne) (sc := sc) (st := st) (row := t1) (cat sc st es).length
  have hm : jf_Model_isRead_two N (nI es.length) (nI ne) sm ss a tr ea fa t = jf_Model_isRead_two_b64 N (nI es.length) (nI ne) sm ss a (nI (cat sc st es).length) tr ea fa t1 := by
    rw [jf_Model_isRead_two]
    exact h1
  rw [hm, jf_Model_isRead_two_b64, r1, Option.bind_some]
  dsimp only
  by_cases hl : (RD ne sc st t1 (cat sc st es).length).length = es.length
  · rw [if_pos (by rw [hl])]
    have hrev := arR_of (a := a) es.reverse (fun q k h => by rw [List.reverse_reverse] at h; exact (ha q k h).1)
    have heq := stk_eq (a := a) _ es.reverse r2 hrev (by rw [List.length_reverse]; exact hl) (fun q k h => by have := RD_ents _ h; omega) (fun k h => by have := hes k (List.mem_reverse.mp h); omega)
    rw [List.length_reverse] at heq
    obtain ⟨z, z1, z2, z3⟩ := ird_cmp_two (a := a) (tr := nI (RD ne sc st t1 (cat sc st es).length).length) (ea := ea') (fa := fa') (t := t1) hn es.length 0 N (by omega) (by omega) (fun q h => absurd h (Nat.not_lt_zero q))
    refine ⟨z, nI (RD ne sc st t1 (cat sc st es).length).length, ea', fa', t1, ?_, fun h => z2 (heq.mpr ?_), fun h => z3 (fun w => h ?_)⟩
    · rw [jf_Model_isRead_two_b86]
      exact z1
    · rw [hR]; exact h
    · unfold clr; rw [← hR]; exact heq.mp w
  · rw [if_neg (by rw [p_eq (by omega) (by omega)]; exact hl)]
    obtain ⟨N', rfl⟩ : ∃ y, N = y + 1 := ⟨N - 1, by omega⟩
    refine ⟨0, nI (RD ne sc st t1 (cat sc st es).length).length, ea', fa', t1, ?_, fun h => absurd ?_ hl, fun _ => rfl⟩
    · rw [jf_Model_isRead_two_b86]
      exact ird_z_two (i := 0)
    · unfold clr at h
      rw [← hR] at h
      have := congrArg List.length h
      rw [List.length_map, List.length_map, List.length_reverse] at this
      exact this
end IRtwo
section IRplan
variable {N ne : Nat} {sc : Nat → Nat} {st sm ss a : Nat → Int32} {tr : Int32} {ea fa : Nat → Int32}
theorem ird_in_plan {k5 : Int32 → Int32 → Int32 → (Nat → Int32) → (Nat → Int32) → (Nat → Int32) → Option (Int32 × Int32 × (Nat → Int32) × (Nat → Int32) × (Nat → Int32))} {i k n : Nat} (hi : i < 60) (hk : k < 60) (ha : a i = nI k) (hsm : sm k = nI n) (hn : n ≤ 5) : ∀ (d j g : Nat) (l : List Int32) (t : Nat → Int32), j + d = n → d < g → ar t l → l.length + d ≤ 300 → ∃ t', jf_Model_isRead_plan_b14 a sm ss k5 g (nI l.length) (nI i) (nI j) tr ea fa t = k5 (nI (l ++ wl (fun j => ss (5 * k + j)) d j).length) (nI (i + 1)) tr ea fa t' ∧ ar t' (l ++ wl (fun j => ss (5 * k + j)) d j) := by
  intro d
  induction d with
  | zero =>
    intro j g l t hj hg ht hl
    obtain ⟨g, rfl⟩ : ∃ y, g = y + 1 := ⟨g - 1, by omega⟩
    refine ⟨t, ?_, by rw [wl, List.append_nil]; exact ht⟩
    rw [jf_Model_isRead_plan_b14, p_ga (by omega) (by omega), p_cl (by omega), ha, p_ga (by omega) (by omega), p_cl (by omega), hsm, if_pos (p_yle (by omega) (by omega)), jf_Model_isRead_plan_b58, nI_1, wl, List.append_nil]
  | succ d ih =>
    intro j g l t hj hg ht hl
    obtain ⟨g, rfl⟩ : ∃ y, g = y + 1 := ⟨g - 1, by omega⟩
    obtain ⟨t', h1, h2⟩ := ih (j + 1) g (l ++ [ss (5 * k + j)]) (upd t l.length (ss (5 * k + j))) (by omega) (by omega) (ar_push ht) (by rw [List.length_append, List.length_singleton]; omega)
    rw [List.append_assoc, List.singleton_append] at h1 h2
    rw [List.length_append (as := l) (bs := [ss (5 * k + j)]), List.length_singleton] at h1
    refine ⟨t', ?_, h2⟩
    rw [jf_Model_isRead_plan_b14, p_ga (by omega) (by omega), p_cl (by omega), ha, p_ga (by omega) (by omega), p_cl (by omega), hsm, if_neg (p_nle (by omega) (by omega)), p_ga (by omega) (by omega), show (5 : Int32) = nI 5 from rfl, pk_mul, nI_add, p_ga (by omega) (by omega), p_ga (by omega) (by omega), p_cl (by omega), p_cl (by omega), nI_1, nI_1]
    exact h1
theorem ird_out_plan {n : Nat} (hn : n ≤ 60) (hne : ne ≤ 60) (hN : 400 ≤ N) (hs : ∀ k, k < ne → sm k = nI (sc k) ∧ sc k ≤ 5 ∧ ∀ i, i < sc k → ss (5 * k + i) = st (5 * k + i)) : ∀ (ks : List Nat) (i g : Nat) (l : List Int32) (t : Nat → Int32), (∀ (q k : Nat), ks[q]? = some k → a (i + q) = nI k ∧ k < ne) → i + ks.length = n → ks.length < g → ar t l → l.length + (cat sc st ks).length ≤ 300 → ∃ t', jf_Model_isRead_plan_b5 N (nI n) (nI ne) a sm ss g (nI l.length) (nI i) tr ea fa t = jf_Model_isRead_plan_b64 N (nI n) (nI ne) a sm ss (nI (l ++ cat sc st ks).length) tr ea fa t' ∧ ar t' (l ++ cat sc st ks) := by
  intro ks
  induction ks with
  | nil =>
    intro i g l t hk hi hg ht hl
    obtain ⟨g, rfl⟩ : ∃ y, g = y + 1 := ⟨g - 1, by omega⟩
    rw [List.length_nil] at hi
    refine ⟨t, ?_, by rw [cat, List.append_nil]; exact ht⟩
    rw [jf_Model_isRead_plan_b5, if_pos (p_yle (by omega) (by omega)), cat, List.append_nil]
  | cons k ks ih =>
    intro i g l t hk hi hg ht hl
    obtain ⟨g, rfl⟩ : ∃ y, g = y + 1 := ⟨g - 1, by omega⟩
    rw [List.length_cons] at hi hg
    obtain ⟨k1, k2⟩ := hk 0 k rfl
    obtain ⟨s1, s2, s3⟩ := hs k k2
    rw [cat, List.length_append, wl_len] at hl
    obtain ⟨t1, h1, h2⟩ := ird_in_plan (sm := sm) (ss := ss) (a := a) (tr := tr) (ea := ea) (fa := fa) (k5 := jf_Model_isRead_plan_b5 N (nI n) (nI ne) a sm ss g) (i := i) (k := k) (n := sc k) (by omega) (by omega) k1 s1 s2 (sc k) 0 N l t (by omega) (by omega) ht (by omega)
    have e1 : wl (fun j => ss (5 * k + j)) (sc k) 0 = wl (fun j => st (5 * k + j)) (sc k) 0 := wl_cong _ _ (fun j _ hj => s3 j (by omega))
    rw [e1] at h1 h2
    obtain ⟨t2, h3, h4⟩ := ih (i + 1) g (l ++ wl (fun j => st (5 * k + j)) (sc k) 0) t1 (fun q k' hq => by rw [show i + 1 + q = i + (q + 1) by omega]; exact hk (q + 1) k' hq) (by omega) (by omega) h2 (by rw [List.length_append, wl_len]; omega)
    rw [List.append_assoc] at h3 h4
    refine ⟨t2, ?_, by rw [cat]; exact h4⟩
    rw [jf_Model_isRead_plan_b5, if_neg (p_nle (by omega) (by omega)), cat, ← h3]
    exact h1
theorem ird_z_plan {n g i : Nat} {t : Nat → Int32} : jf_Model_isRead_plan_b91 (nI n) a (g + 1) 0 (nI i) tr ea fa t = some (0, tr, ea, fa, t) := by
  rw [jf_Model_isRead_plan_b91, jgb_0]
  by_cases h : nI n ≤ nI i
  · rw [if_pos h]
  · rw [if_neg h, if_pos rfl]
theorem ird_cmp_plan {n : Nat} {t : Nat → Int32} (hn : n ≤ 60) : ∀ (d i g : Nat), i + d = n → d + 1 < g → (∀ q, q < i → ea q = a q) → ∃ z, jf_Model_isRead_plan_b91 (nI n) a g 1 (nI i) tr ea fa t = some (z, tr, ea, fa, t) ∧ ((∀ q, q < n → ea q = a q) → z = 1) ∧ ((¬ ∀ q, q < n → ea q = a q) → z = 0) := by
  intro d
  induction d with
  | zero =>
    intro i g hi hg hq
    obtain ⟨g, rfl⟩ : ∃ y, g = y + 1 := ⟨g - 1, by omega⟩
    have hin : i = n := by omega
    subst hin
    refine ⟨1, ?_, fun _ => rfl, fun h => absurd hq h⟩
    rw [jf_Model_isRead_plan_b91, if_pos (p_yle (by omega) (by omega)), jgb_1]
  | succ d ih =>
    intro i g hi hg hq
    obtain ⟨g, rfl⟩ : ∃ y, g = y + 1 + 1 := ⟨g - 2, by omega⟩
    by_cases he : ea i = a i
    · obtain ⟨z, z1, z2⟩ := ih (i + 1) (g + 1) (by omega) (by omega) (fun q h => by
        rcases Nat.lt_or_ge q i with w | w
        · exact hq q w
        · rw [show q = i by omega]; exact he)
      refine ⟨z, ?_, z2⟩
      rw [jf_Model_isRead_plan_b91, if_neg (p_nle (by omega) (by omega)), if_neg (by decide), p_ga (by omega) (by omega), p_ga (by omega) (by omega), p_cl (by omega), if_pos he, jf_Model_isRead_plan_b121, nI_1]
      exact z1
    · refine ⟨0, ?_, fun h => absurd (h i (by omega)) he, fun _ => rfl⟩
      rw [jf_Model_isRead_plan_b91, if_neg (p_nle (by omega) (by omega)), if_neg (by decide), p_ga (by omega) (by omega), p_ga (by omega) (by omega), p_cl (by omega), if_neg he, jf_Model_isRead_plan_b121, nI_1, ird_z_plan]
theorem isRead_plan {es : List Nat} {t : Nat → Int32} (hn : es.length ≤ 60) (hne : ne ≤ 60) (hN : 400 ≤ N) (hd : dst ne sc st) (hs : ∀ k, k < ne → sm k = nI (sc k) ∧ sc k ≤ 5 ∧ ∀ i, i < sc k → ss (5 * k + i) = st (5 * k + i)) (ha : ∀ (q k : Nat), es[q]? = some k → a q = nI k ∧ k < ne) : ∃ z tr' ea' fa' t', jf_Model_isRead_plan N (nI es.length) (nI ne) a sm ss tr ea fa t = some (z, tr', ea', fa', t') ∧ (clr ne sc st es → z = 1) ∧ (¬ clr ne sc st es → z = 0) := by
  have hes : ∀ k, k ∈ es → k < ne := by
    intro k hk
    obtain ⟨q, hq⟩ := List.mem_iff_getElem?.mp hk
    exact (ha q k hq).2
  have hc := cat_len (sc := sc) (st := st) es (fun k hk => (hs k (hes k hk)).2.1)
  obtain ⟨t1, h1, h2⟩ := ird_out_plan (sm := sm) (ss := ss) (a := a) (tr := tr) (ea := ea) (fa := fa) hn hne hN hs es 0 N [] t (fun q k h => by rw [Nat.zero_add]; exact ha q k h) (by omega) (by omega) ar_nil (by rw [List.length_nil]; omega)
  rw [List.nil_append] at h1 h2
  obtain ⟨ea', fa', r1, r2, r3⟩ := reads_trial (N := N) (row := t1) (tr := tr) (ea := ea) (fa := fa) hne hN hd hs (n := (cat sc st es).length) (by omega)
  have hR := RD_cat hd h2
  have hL := RD_len (ne := ne) (sc := sc) (st := st) (row := t1) (cat sc st es).length
  have hm : jf_Model_isRead_plan N (nI es.length) (nI ne) a sm ss tr ea fa t = jf_Model_isRead_plan_b64 N (nI es.length) (nI ne) a sm ss (nI (cat sc st es).length) tr ea fa t1 := by
    rw [jf_Model_isRead_plan]
    exact h1
  rw [hm, jf_Model_isRead_plan_b64, r1, Option.bind_some]
  dsimp only
  by_cases hl : (RD ne sc st t1 (cat sc st es).length).length = es.length
  · rw [if_pos (by rw [hl])]
    have hrev := arR_of (a := a) es.reverse (fun q k h => by rw [List.reverse_reverse] at h; exact (ha q k h).1)
    have heq := stk_eq (a := a) _ es.reverse r2 hrev (by rw [List.length_reverse]; exact hl) (fun q k h => by have := RD_ents _ h; omega) (fun k h => by have := hes k (List.mem_reverse.mp h); omega)
    rw [List.length_reverse] at heq
    obtain ⟨z, z1, z2, z3⟩ := ird_cmp_plan (a := a) (tr := nI (RD ne sc st t1 (cat sc st es).length).length) (ea := ea') (fa := fa') (t := t1) hn es.length 0 N (by omega) (by omega) (fun q h => absurd h (Nat.not_lt_zero q))
    refine ⟨z, nI (RD ne sc st t1 (cat sc st es).length).length, ea', fa', t1, ?_, fun h => z2 (heq.mpr ?_), fun h => z3 (fun w => h ?_)⟩
    · rw [jf_Model_isRead_plan_b86]
      exact z1
    · rw [hR]; exact h
    · unfold clr; rw [← hR]; exact heq.mp w
  · rw [if_neg (by rw [p_eq (by omega) (by omega)]; exact hl)]
    obtain ⟨N', rfl⟩ : ∃ y, N = y + 1 := ⟨N - 1, by omega⟩
    refine ⟨0, nI (RD ne sc st t1 (cat sc st es).length).length, ea', fa', t1, ?_, fun h => absurd ?_ hl, fun _ => rfl⟩
    · rw [jf_Model_isRead_plan_b86]
      exact ird_z_plan (i := 0)
    · unfold clr at h
      rw [← hR] at h
      have := congrArg List.length h
      rw [List.length_map, List.length_map, List.length_reverse] at this
      exact this
end IRplan
