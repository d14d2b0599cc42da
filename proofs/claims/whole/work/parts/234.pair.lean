/-! promises 18 and 19 on both sides -/
theorem wl_at {g : Nat → Int32} : ∀ (d i j : Nat), j < d → (wl g d i)[j]? = some (g (i + j)) := by
  intro d
  induction d with
  | zero => intro i j h; omega
  | succ d ih =>
    intro i j h
    rw [wl]
    cases j with
    | zero => rfl
    | succ j =>
      rw [List.getElem?_cons_succ, ih (i + 1) j (by omega), show i + 1 + j = i + (j + 1) by omega]
section RN
variable {N ne : Nat} {sc : Nat → Nat} {st asc ast : Nat → Int32}
/-- what the class's rows say of the outlines -/
def scC (ne : Nat) (sc : Nat → Nat) (st asc ast : Nat → Int32) : Prop := ∀ k, k < ne → asc k = nI (sc k) ∧ 1 ≤ sc k ∧ sc k ≤ 5 ∧ ∀ j, j < sc k → ast (5 * k + j) = st (5 * k + j)
theorem alike_loop {k o b n : Nat} (hne : ne ≤ 60) (hs : scC ne sc st asc ast) (hk : k < ne) (ho : o < ne) (hn : n ≤ sc k) (hb : b + n ≤ sc o) : ∀ (d i g : Nat), i + d = n → d < g → (∀ j, j < i → st (5 * k + j) = st (5 * o + (b + j))) → ∃ z, jf_Runs_areStrokesAlike_b3 (nI k) (nI o) (nI b) (nI n) (nI ne) asc ast g (nI i) = some z ∧ ((∀ j, j < n → st (5 * k + j) = st (5 * o + (b + j))) → z = 1) ∧ ((¬ ∀ j, j < n → st (5 * k + j) = st (5 * o + (b + j))) → z = 0) := by
  obtain ⟨k1, k2, k3, k4⟩ := hs k hk
  obtain ⟨o1, o2, o3, o4⟩ := hs o ho
  intro d
  induction d with
  | zero =>
    intro i g hi hg hq
    obtain ⟨g, rfl⟩ : ∃ y, g = y + 1 := ⟨g - 1, by omega⟩
    have hin : i = n := by omega
    subst hin
    refine ⟨1, ?_, fun _ => rfl, fun h => absurd hq h⟩
    rw [jf_Runs_areStrokesAlike_b3, if_pos (p_yle (by omega) (by omega))]
  | succ d ih =>
    intro i g hi hg hq
    obtain ⟨g, rfl⟩ : ∃ y, g = y + 1 := ⟨g - 1, by omega⟩
    rw [jf_Runs_areStrokesAlike_b3, if_neg (p_nle (by omega) (by omega)), Book_strokeAt_in hk hne k1 (by omega) k3, Option.bind_some, nI_add, Book_strokeAt_in ho hne o1 (by omega) o3, Option.bind_some, k4 i (by omega), o4 (b + i) (by omega)]
    by_cases he : st (5 * k + i) = st (5 * o + (b + i))
    · rw [if_pos he, nI_1]
      exact ih (i + 1) g (by omega) (by omega) (fun j hj => by
        rcases Nat.lt_or_ge j i with w | w
        · exact hq j w
        · rw [show j = i by omega]; exact he)
    · rw [if_neg he]
      exact ⟨0, rfl, fun h => absurd (h i (by omega)) he, fun _ => rfl⟩
theorem alike_ok {k o b n : Nat} (hN : 100 ≤ N) (hne : ne ≤ 60) (hs : scC ne sc st asc ast) (hk : k < ne) (ho : o < ne) (hn : n ≤ sc k) (hb : b + n ≤ sc o) : ∃ z, jf_Runs_areStrokesAlike N (nI k) (nI o) (nI b) (nI n) (nI ne) asc ast = some z ∧ ((∀ j, j < n → st (5 * k + j) = st (5 * o + (b + j))) → z = 1) ∧ ((¬ ∀ j, j < n → st (5 * k + j) = st (5 * o + (b + j))) → z = 0) := by
  have h5 := (hs k hk).2.2.1
  exact alike_loop hne hs hk ho hn hb n 0 N (by omega) (by omega) (fun j hj => absurd hj (Nat.not_lt_zero j))
/-- the outline of k goes on behind all of a -/
def goes (sc : Nat → Nat) (st : Nat → Int32) (a k : Nat) : Prop := sc a < sc k ∧ ∀ i, i < sc a → st (5 * a + i) = st (5 * k + (0 + i))
def into (sc : Nat → Nat) (st : Nat → Int32) (a b k : Nat) : Prop := sc k - sc a ≤ sc b ∧ ∀ i, i < sc k - sc a → st (5 * b + i) = st (5 * k + (sc a + i))
theorem rtg_iff {a b : Nat} : rtg ne sc st a b ↔ ∃ k, (k < ne ∧ goes sc st a k) ∧ into sc st a b k := by
  constructor
  · rintro ⟨k, h1, h2, h3, h4, h5⟩
    exact ⟨k, ⟨h1, h2, fun i hi => by rw [Nat.zero_add]; exact h4 i hi⟩, by omega, h5⟩
  · rintro ⟨k, ⟨h1, h2, h3⟩, h4, h5⟩
    exact ⟨k, h1, h2, by omega, fun i hi => by rw [h3 i hi, Nat.zero_add], h5⟩
theorem gather_loop {a : Nat} (hN : 100 ≤ N) (hne : ne ≤ 60) (hs : scC ne sc st asc ast) (ha : a < ne) : ∀ (d K g : Nat) (L : List Nat) (lo : Nat → Int32), K + d = ne → d < g → ar lo (L.map nI) → L.length ≤ K → (∀ k, k ∈ L ↔ k < K ∧ goes sc st a k) → ∃ (L' : List Nat) (lo' : Nat → Int32), jf_Runs_gather_b19 N (nI a) (nI ne) asc ast g (nI K) (nI L.length) (nI (sc a)) lo = some (nI L'.length, nI (sc a), lo') ∧ ar lo' (L'.map nI) ∧ L'.length ≤ 60 ∧ ∀ k, k ∈ L' ↔ k < ne ∧ goes sc st a k := by
  obtain ⟨a1, a2, a3, a4⟩ := hs a ha
  intro d
  induction d with
  | zero =>
    intro K g L lo hK hg hl hlen hm
    obtain ⟨g, rfl⟩ : ∃ y, g = y + 1 := ⟨g - 1, by omega⟩
    have : K = ne := by omega
    subst this
    refine ⟨L, lo, ?_, hl, by omega, hm⟩
    rw [jf_Runs_gather_b19, jf_Book_size, Option.bind_some, if_pos (p_yle (by omega) (by omega))]
  | succ d ih =>
    intro K g L lo hK hg hl hlen hm
    obtain ⟨g, rfl⟩ : ∃ y, g = y + 1 := ⟨g - 1, by omega⟩
    have hKn : K < ne := by omega
    obtain ⟨k1, k2, k3, k4⟩ := hs K hKn
    have skip : ¬ goes sc st a K → ∃ (L' : List Nat) (lo' : Nat → Int32), jf_Runs_gather_b63 (jf_Runs_gather_b19 N (nI a) (nI ne) asc ast g) (nI K) (nI L.length) (nI (sc a)) lo = some (nI L'.length, nI (sc a), lo') ∧ ar lo' (L'.map nI) ∧ L'.length ≤ 60 ∧ ∀ k, k ∈ L' ↔ k < ne ∧ goes sc st a k := by
      intro hg'
      rw [jf_Runs_gather_b63, jf_Runs_gather_b64, if_pos rfl, jf_Runs_gather_b98, nI_1]
      refine ih (K + 1) g L lo (by omega) (by omega) hl (by omega) (fun k => ?_)
      rw [hm k]
      constructor
      · rintro ⟨q1, q2⟩; exact ⟨by omega, q2⟩
      · rintro ⟨q1, q2⟩
        refine ⟨?_, q2⟩
        rcases Nat.lt_or_ge k K with w | w
        · exact w
        · rw [show k = K by omega] at q2; exact absurd q2 hg'
    rw [jf_Runs_gather_b19, jf_Book_size, Option.bind_some, if_neg (p_nle (by omega) (by omega)), Book_strokesOf_in hKn hne, Option.bind_some, k1]
    rcases Nat.lt_or_ge (sc a) (sc K) with q | q
    · obtain ⟨z, z1, z2, z3⟩ := alike_ok (N := N) hN hne hs ha hKn (b := 0) (n := sc a) (Nat.le_refl _) (by omega)
      rw [if_neg (p_nle (by omega) (by omega)), show jf_Runs_areStrokesAlike N (nI a) (nI K) 0 (nI (sc a)) (nI ne) asc ast = some z from z1, Option.bind_some]
      by_cases hq : ∀ j, j < sc a → st (5 * a + j) = st (5 * K + (0 + j))
      · rw [z2 hq, if_neg (by decide), jf_Runs_gather_b64, if_neg (by decide), if_neg (show ¬ (60 : Int32) ≤ nI L.length from (show ¬ nI 60 ≤ nI L.length from p_nle (by omega) (by omega))), p_ga (by omega) (by omega), p_cl (by omega), jf_Runs_gather_b98, nI_1, nI_1]
        have hp := ar_push (v := nI K) hl
        rw [List.length_map] at hp
        obtain ⟨L', lo', r1, r2⟩ := ih (K + 1) g (L ++ [K]) (upd lo L.length (nI K)) (by omega) (by omega) (by rw [List.map_append]; exact hp) (by rw [List.length_append, List.length_singleton]; omega) (fun k => by
          rw [List.mem_append, List.mem_singleton, hm k]
          constructor
          · rintro (⟨q1, q2⟩ | q1)
            · exact ⟨by omega, q2⟩
            · rw [q1]; exact ⟨by omega, q, hq⟩
          · rintro ⟨q1, q2⟩
            rcases Nat.lt_or_ge k K with w | w
            · exact Or.inl ⟨w, q2⟩
            · exact Or.inr (by omega))
        rw [List.length_append, List.length_singleton] at r1
        exact ⟨L', lo', r1, r2⟩
      · rw [z3 hq, if_pos rfl]
        exact skip (fun h => hq h.2)
    · rw [if_pos (p_yle (by omega) (by omega))]
      exact skip (fun h => by have := h.1; omega)
theorem gather_ok {a : Nat} {z0 z1 : Int32} {lo : Nat → Int32} (hN : 100 ≤ N) (hne : ne ≤ 60) (hs : scC ne sc st asc ast) (ha : a < ne) : ∃ (L : List Nat) (lo' : Nat → Int32), jf_Runs_gather N (nI a) (nI ne) asc ast z0 z1 lo = some (nI L.length, nI (sc a), lo') ∧ ar lo' (L.map nI) ∧ L.length ≤ 60 ∧ ∀ k, k ∈ L ↔ k < ne ∧ goes sc st a k := by
  obtain ⟨a1, -⟩ := hs a ha
  obtain ⟨L, lo', r1, r2⟩ := gather_loop (N := N) hN hne hs ha ne 0 N [] lo (by omega) (by omega) ar_nil (Nat.le_refl 0) (fun k => ⟨fun h => (by cases h), fun h => absurd h.1 (Nat.not_lt_zero k)⟩)
  refine ⟨L, lo', ?_, r2⟩
  rw [jf_Runs_gather, Book_strokesOf_in ha hne, Option.bind_some, a1]
  exact r1
theorem into_loop {a b : Nat} {L : List Nat} {lo : Nat → Int32} (hN : 100 ≤ N) (hne : ne ≤ 60) (hs : scC ne sc st asc ast) (ha : a < ne) (hb : b < ne) (hl : ar lo (L.map nI)) (h60 : L.length ≤ 60) (hm : ∀ k, k ∈ L ↔ k < ne ∧ goes sc st a k) : ∀ (d i g : Nat), i + d = L.length → d < g → (∀ (q k : Nat), q < i → L[q]? = some k → ¬ into sc st a b k) → ∃ z, jf_Runs_runInto_b2 N (nI b) (nI L.length) (nI (sc a)) (nI ne) asc ast lo g (nI i) = some z ∧ (rtg ne sc st a b → z = 1) ∧ (¬ rtg ne sc st a b → z = 0) := by
  obtain ⟨b1, b2, b3, b4⟩ := hs b hb
  intro d
  induction d with
  | zero =>
    intro i g hi hg hq
    obtain ⟨g, rfl⟩ : ∃ y, g = y + 1 := ⟨g - 1, by omega⟩
    refine ⟨0, ?_, fun h => ?_, fun _ => rfl⟩
    · rw [jf_Runs_runInto_b2, if_pos (p_yle (by omega) (by omega))]
    · obtain ⟨k, hk, hk2⟩ := rtg_iff.mp h
      obtain ⟨q, hq'⟩ := List.mem_iff_getElem?.mp ((hm k).mpr hk)
      have hlt : q < L.length := by
        rcases Nat.lt_or_ge q L.length with w | w
        · exact w
        · rw [List.getElem?_eq_none w] at hq'; cases hq'
      exact absurd hk2 (hq q k (by omega) hq')
  | succ d ih =>
    intro i g hi hg hq
    obtain ⟨g, rfl⟩ : ∃ y, g = y + 1 := ⟨g - 1, by omega⟩
    have hil : i < L.length := by omega
    have hlk : L[i]? = some L[i] := List.getElem?_eq_getElem hil
    have hlo : lo i = nI L[i] := hl i _ (by rw [List.getElem?_map, hlk]; rfl)
    obtain ⟨hkn, hgo⟩ := (hm L[i]).mp (List.getElem_mem hil)
    obtain ⟨k1, k2, k3, k4⟩ := hs L[i] hkn
    have hlt := hgo.1
    have skip : ¬ into sc st a b L[i] → ∃ z, jf_Runs_runInto_b62 (jf_Runs_runInto_b2 N (nI b) (nI L.length) (nI (sc a)) (nI ne) asc ast lo g) (nI i) = some z ∧ (rtg ne sc st a b → z = 1) ∧ (¬ rtg ne sc st a b → z = 0) := by
      intro hn
      rw [jf_Runs_runInto_b62, nI_1]
      refine ih (i + 1) g (by omega) (by omega) (fun q k h1 h2 => ?_)
      rcases Nat.lt_or_ge q i with w | w
      · exact hq q k w h2
      · rw [show q = i by omega, hlk] at h2
        injection h2 with h2
        rw [← h2]
        exact hn
    rw [jf_Runs_runInto_b2, if_neg (p_nle (by omega) (by omega)), p_ga (by omega) (by omega), p_cl (by omega), hlo, Book_strokesOf_in hkn hne, Option.bind_some, Book_strokesOf_in hb hne, Option.bind_some, k1, b1, p_sub (by omega)]
    rcases Nat.lt_or_ge (sc b) (sc L[i] - sc a) with q | q
    · rw [if_pos (p_ylt q (by omega))]
      exact skip (fun h => by have := h.1; omega)
    · obtain ⟨z, z1, z2, z3⟩ := alike_ok (N := N) hN hne hs hb hkn (b := sc a) (n := sc L[i] - sc a) q (by omega)
      rw [if_neg (p_nlt q (by omega)), p_ga (by omega) (by omega), z1, Option.bind_some]
      by_cases hj : ∀ j, j < sc L[i] - sc a → st (5 * b + j) = st (5 * L[i] + (sc a + j))
      · rw [z2 hj, if_neg (by decide)]
        exact ⟨1, rfl, fun _ => rfl, fun h => absurd (rtg_iff.mpr ⟨L[i], ⟨hkn, hgo⟩, q, hj⟩) h⟩
      · rw [z3 hj, if_pos rfl]
        exact skip (fun h => hj h.2)
theorem runInto_ok {a b : Nat} {L : List Nat} {lo : Nat → Int32} (hN : 100 ≤ N) (hne : ne ≤ 60) (hs : scC ne sc st asc ast) (ha : a < ne) (hb : b < ne) (hl : ar lo (L.map nI)) (h60 : L.length ≤ 60) (hm : ∀ k, k ∈ L ↔ k < ne ∧ goes sc st a k) : ∃ z, jf_Runs_runInto N (nI b) (nI L.length) (nI (sc a)) (nI ne) asc ast lo = some z ∧ (rtg ne sc st a b → z = 1) ∧ (¬ rtg ne sc st a b → z = 0) := into_loop hN hne hs ha hb hl h60 hm L.length 0 N (by omega) (by omega) (fun q k h => absurd h (Nat.not_lt_zero q))
theorem clr_two {a b : Nat} (hd : dst ne sc st) (h5 : ∀ k, k < ne → 1 ≤ sc k ∧ sc k ≤ 5) (ha : a < ne) (hb : b < ne) : clr ne sc st [a, b] ↔ ¬ rtg ne sc st a b := by
  have hlen : (cat sc st [a, b]).length = sc a + sc b := by
    rw [cat, cat, cat, List.append_nil, List.length_append, wl_len, wl_len]
  have hcat : cat sc st [a, b] = wl (fun j => st (5 * a + j)) (sc a) 0 ++ wl (fun j => st (5 * b + j)) (sc b) 0 := by
    rw [cat, cat, cat, List.append_nil]
  obtain ⟨t1, t2⟩ := rd_two (row := fun i => (cat sc st [a, b]).getD i 0) hd h5 ha hb (fun i hi => by
      rw [hcat, List.getD_eq_getElem?_getD, List.getElem?_append_left (by rw [wl_len]; exact hi), wl_at _ _ _ hi, Nat.zero_add]
      rfl) (fun i hi => by
      rw [hcat, List.getD_eq_getElem?_getD, List.getElem?_append_right (by rw [wl_len]; omega), wl_len, Nat.add_sub_cancel_left, wl_at _ _ _ hi, Nat.zero_add]
      rfl)
  unfold clr
  rw [hlen]
  exact ⟨fun h q => t2 q h, fun h => t1 h⟩
end RN
section PR
variable {N ne : Nat} {sc : Nat → Nat} {st asc ast sm ss : Nat → Int32}
noncomputable def tgB (ne : Nat) (sc : Nat → Nat) (st : Nat → Int32) (a b : Nat) : Bool := by classical exact decide (rtg ne sc st a b)
theorem tgB_y {a b : Nat} : tgB ne sc st a b = true ↔ rtg ne sc st a b := by
  classical
  unfold tgB
  exact decide_eq_true_iff
theorem mTog {a b : Nat} {tr : Int32} {ea fa t tw : Nat → Int32} (hne : ne ≤ 60) (hN : 400 ≤ N) (hd : dst ne sc st) (h5 : ∀ k, k < ne → 1 ≤ sc k ∧ sc k ≤ 5) (hs : ∀ k, k < ne → sm k = nI (sc k) ∧ sc k ≤ 5 ∧ ∀ i, i < sc k → ss (5 * k + i) = st (5 * k + i)) (ha : a < ne) (hb : b < ne) : ∃ tr' ea' fa' t' tw', jf_Model_together N (nI a) (nI b) (nI ne) sm ss tr ea fa t tw = some ((if tgB ne sc st a b = true then 1 else 0), tr', ea', fa', t', tw') := by
  obtain ⟨z, tr', ea', fa', t', z1, z2, z3⟩ := isRead_two (N := N) (es := [a, b]) (sm := sm) (ss := ss) (a := upd (upd tw 0 (nI a)) 1 (nI b)) (tr := tr) (ea := ea) (fa := fa) (t := t) (Nat.le_refl 2) hne hN hd hs (fun q k h => by
    rcases q with _ | _ | q
    · cases h; exact ⟨by rw [p_upd_n (by omega), p_upd_s], ha⟩
    · cases h; exact ⟨by rw [p_upd_s], hb⟩
    · cases h)
  rw [jf_Model_together, if_neg (p_n0 (by omega)), if_neg (p_nle ha (by omega)), if_neg (p_n0 (by omega)), if_pos (p_ylt hb (by omega))]
  have g0 : ∀ {α : Type} (k : Option α), jga (0 : Int32) 2 k = k := fun k => p_ga (j := 0) (by omega) (by omega)
  have g1 : ∀ {α : Type} (k : Option α), jga (1 : Int32) 2 k = k := fun k => p_ga (j := 1) (by omega) (by omega)
  rw [g0, g1, show jf_Model_isRead_two N 2 (nI ne) sm ss (upd (upd tw (0 : Int32).toNatClampNeg (nI a)) (1 : Int32).toNatClampNeg (nI b)) tr ea fa t = some (z, tr', ea', fa', t') from z1, Option.bind_some]
  dsimp only
  by_cases h : rtg ne sc st a b
  · rw [z3 (fun q => (clr_two hd h5 ha hb).mp q h), if_pos rfl, if_pos (tgB_y.mpr h)]
    exact ⟨_, _, _, _, _, rfl⟩
  · rw [z2 ((clr_two hd h5 ha hb).mpr h), if_neg (by decide), if_neg (fun q => h (tgB_y.mp q))]
    exact ⟨_, _, _, _, _, rfl⟩
/-- promise 18 -/
theorem op_together {x y z0 z1 tr : Int32} {lo ea fa t tw : Nat → Int32} (hne : ne ≤ 60) (hN : 400 ≤ N) (hd : dst ne sc st) (hs : scC ne sc st asc ast) (hm : ∀ k, k < ne → sm k = nI (sc k) ∧ sc k ≤ 5 ∧ ∀ i, i < sc k → ss (5 * k + i) = st (5 * k + i)) : ∃ (r z0' z1' tr' : Int32) (lo' ea' fa' t' tw' : Nat → Int32), jf_Room_together N x y (nI ne) asc ast z0 z1 lo = some (r, z0', z1', lo') ∧ jf_Model_together N x y (nI ne) sm ss tr ea fa t tw = some (r, tr', ea', fa', t', tw') := by
  rcases p_ix x (n := ne) (by omega) with h | ⟨h, h'⟩ | ⟨a, ha, rfl⟩
  · refine ⟨-1, z0, z1, tr, lo, ea, fa, t, tw, ?_, ?_⟩
    rotate_left
    · rw [jf_Model_together, if_pos h]
    · rw [jf_Room_together, Book_has_neg h, Option.bind_some, if_pos rfl]
  · refine ⟨-1, z0, z1, tr, lo, ea, fa, t, tw, ?_, ?_⟩
    rotate_left
    · rw [jf_Model_together, if_neg h', if_pos h]
    · rw [jf_Room_together, Book_has_big h h', Option.bind_some, if_pos rfl]
  · rcases p_ix y (n := ne) (by omega) with h | ⟨h, h'⟩ | ⟨b, hb, rfl⟩
    · refine ⟨-1, z0, z1, tr, lo, ea, fa, t, tw, ?_, ?_⟩
      rotate_left
      · rw [jf_Model_together, if_neg (p_n0 (by omega)), if_neg (p_nle ha (by omega)), if_pos h]
      · rw [jf_Room_together, Book_has_in ha hne, Option.bind_some, if_neg (by decide), Book_has_neg h, Option.bind_some, if_pos rfl]
    · refine ⟨-1, z0, z1, tr, lo, ea, fa, t, tw, ?_, ?_⟩
      rotate_left
      · rw [jf_Model_together, if_neg (p_n0 (by omega)), if_neg (p_nle ha (by omega)), if_neg h', if_neg (Int32.not_lt.mpr h)]
      · rw [jf_Room_together, Book_has_in ha hne, Option.bind_some, if_neg (by decide), Book_has_big h h', Option.bind_some, if_pos rfl]
    · obtain ⟨tr', ea', fa', t', tw', m1⟩ := mTog (tr := tr) (ea := ea) (fa := fa) (t := t) (tw := tw) hne hN hd (fun k hk => ⟨(hs k hk).2.1, (hs k hk).2.2.1⟩) hm ha hb
      obtain ⟨L, lo', g1, g2, g3, g4⟩ := gather_ok (N := N) (z0 := z0) (z1 := z1) (lo := lo) (by omega) hne hs ha
      obtain ⟨z, r1, r2, r3⟩ := runInto_ok (N := N) (by omega) hne hs ha hb g2 g3 g4
      refine ⟨_, nI L.length, nI (sc a), tr', lo', ea', fa', t', tw', ?_, m1⟩
      rw [jf_Room_together, Book_has_in ha hne, Option.bind_some, if_neg (by decide), Book_has_in hb hne, Option.bind_some, if_neg (by decide), g1, Option.bind_some]
      dsimp only
      rw [r1, Option.bind_some]
      by_cases h : rtg ne sc st a b
      · rw [r2 h, if_neg (by decide), if_pos (tgB_y.mpr h)]
      · rw [r3 h, if_pos rfl, if_neg (fun q => h (tgB_y.mp q))]
/-- the pairs of one first entry, from b on; c pairs came ahead -/
def pin (tg : Nat → Bool) (i : Nat) : Nat → Nat → Nat → Option Nat × Nat
  | 0, _, c => (none, c)
  | d + 1, b, c => if tg b = true then (if c = i then (some b, c) else pin tg i d (b + 1) (c + 1)) else pin tg i d (b + 1) c
def pout (tg : Nat → Nat → Bool) (n i : Nat) : Nat → Nat → Nat → Int32
  | 0, _, _ => -1
  | d + 1, a, c => match pin (tg a) i n 0 c with
    | (some b, _) => 64 * nI a + nI b
    | (none, c') => pout tg n i d (a + 1) c'
theorem pin_le {tg : Nat → Bool} {i : Nat} : ∀ (d b c : Nat), c ≤ i → (pin tg i d b c).2 ≤ i := by
  intro d
  induction d with
  | zero => intro b c h; exact h
  | succ d ih =>
    intro b c h
    rw [pin]
    by_cases h1 : tg b = true
    · rw [if_pos h1]
      by_cases h2 : c = i
      · rw [if_pos h2]; exact h
      · rw [if_neg h2]; exact ih (b + 1) (c + 1) (by omega)
    · rw [if_neg h1]; exact ih (b + 1) c h
theorem pin_no {tg : Nat → Bool} {i : Nat} : ∀ (d b c : Nat), (∀ q, b ≤ q → q < b + d → ¬ tg q = true) → pin tg i d b c = (none, c) := by
  intro d
  induction d with
  | zero => intro b c h; rfl
  | succ d ih =>
    intro b c h
    rw [pin, if_neg (h b (Nat.le_refl b) (by omega))]
    exact ih (b + 1) c (fun q h1 h2 => h q (by omega) (by omega))
/-- what follows upon the pairs of one first entry -/
def pgo {α : Type} (q : Option Nat × Nat) (fo : Nat → α) (no : Nat → α) : α := match q with
  | (some b, _) => fo b
  | (none, c) => no c
theorem cPin {a i : Nat} {L : List Nat} {lo : Nat → Int32} {k4 : Int32 → Int32 → Int32 → Int32 → (Nat → Int32) → Option (Int32 × Int32 × Int32 × (Nat → Int32))} (hi : i < 2147483648) (hN : 100 ≤ N) (hne : ne ≤ 60) (hs : scC ne sc st asc ast) (ha : a < ne) (hl : ar lo (L.map nI)) (h60 : L.length ≤ 60) (h0 : 0 < L.length) (hm : ∀ k, k ∈ L ↔ k < ne ∧ goes sc st a k) : ∀ (d b c g : Nat), b + d = ne → d < g → c ≤ i → jf_Runs_pairAt_b23 N (nI ne) asc ast k4 g (nI (i - c)) (nI a) (nI b) (nI L.length) (nI (sc a)) lo = pgo (pin (tgB ne sc st a) i d b c) (fun b' => some (64 * nI a + nI b', nI L.length, nI (sc a), lo)) (fun c' => k4 (nI (i - c')) (nI (a + 1)) (nI L.length) (nI (sc a)) lo) := by
  intro d
  induction d with
  | zero =>
    intro b c g hb hg hc
    obtain ⟨g, rfl⟩ : ∃ y, g = y + 1 := ⟨g - 1, by omega⟩
    rw [jf_Runs_pairAt_b23, jf_Book_size, Option.bind_some, if_pos (p_yle (by omega) (by omega)), jf_Runs_pairAt_b72, nI_1, pin]
    rfl
  | succ d ih =>
    intro b c g hb hg hc
    obtain ⟨g, rfl⟩ : ∃ y, g = y + 1 := ⟨g - 1, by omega⟩
    obtain ⟨z, r1, r2, r3⟩ := runInto_ok (N := N) hN hne hs ha (b := b) (by omega) hl h60 hm
    rw [jf_Runs_pairAt_b23, jf_Book_size, Option.bind_some, if_neg (p_nle (by omega) (by omega)), if_neg (show ¬ nI L.length ≤ 0 from p_nle (b := 0) h0 (by omega)), r1, Option.bind_some, pin]
    by_cases h : rtg ne sc st a b
    · rw [r2 h, if_neg (by decide), if_pos (tgB_y.mpr h)]
      by_cases hci : c = i
      · rw [if_pos hci, if_pos (show nI (i - c) = 0 from by rw [hci, Nat.sub_self]; rfl), jf_Runs_pairAt_b55]
        rfl
      · rw [if_neg hci, if_neg (show ¬ nI (i - c) = 0 from p_ne (b := 0) (by omega) (by omega) (by omega)), jf_Runs_pairAt_b66, p_d1 (by omega), nI_1, show i - c - 1 = i - (c + 1) by omega]
        exact ih (b + 1) (c + 1) g (by omega) (by omega) (by omega)
    · rw [r3 h, if_pos rfl, if_neg (fun q => h (tgB_y.mp q)), jf_Runs_pairAt_b66, nI_1]
      exact ih (b + 1) c g (by omega) (by omega) hc
theorem cPout {i : Nat} (hi : i < 2147483648) (hN : 100 ≤ N) (hne : ne ≤ 60) (hs : scC ne sc st asc ast) : ∀ (d a c g : Nat) (z0 z1 : Int32) (lo : Nat → Int32), a + d = ne → d < g → c ≤ i → ∃ (z0' z1' : Int32) (lo' : Nat → Int32), jf_Runs_pairAt_b4 N (nI ne) asc ast g (nI (i - c)) (nI a) z0 z1 lo = some (pout (tgB ne sc st) ne i d a c, z0', z1', lo') := by
  intro d
  induction d with
  | zero =>
    intro a c g z0 z1 lo ha hg hc
    obtain ⟨g, rfl⟩ : ∃ y, g = y + 1 := ⟨g - 1, by omega⟩
    rw [jf_Runs_pairAt_b4, jf_Book_size, Option.bind_some, if_pos (p_yle (by omega) (by omega)), pout]
    exact ⟨_, _, _, rfl⟩
  | succ d ih =>
    intro a c g z0 z1 lo ha hg hc
    obtain ⟨g, rfl⟩ : ∃ y, g = y + 1 := ⟨g - 1, by omega⟩
    have han : a < ne := by omega
    obtain ⟨L, lo', g1, g2, g3, g4⟩ := gather_ok (N := N) (z0 := z0) (z1 := z1) (lo := lo) hN hne hs han
    rw [jf_Runs_pairAt_b4, jf_Book_size, Option.bind_some, if_neg (p_nle (by omega) (by omega)), g1, Option.bind_some]
    dsimp only
    have hstep : jf_Runs_pairAt_b23 N (nI ne) asc ast (jf_Runs_pairAt_b4 N (nI ne) asc ast g) N (nI (i - c)) (nI a) 0 (nI L.length) (nI (sc a)) lo' = pgo (pin (tgB ne sc st a) i ne 0 c) (fun b' => some (64 * nI a + nI b', nI L.length, nI (sc a), lo')) (fun c' => jf_Runs_pairAt_b4 N (nI ne) asc ast g (nI (i - c')) (nI (a + 1)) (nI L.length) (nI (sc a)) lo') := by
      rcases Nat.eq_zero_or_pos L.length with h0 | h0
      · have hno : ∀ q, 0 ≤ q → q < 0 + ne → ¬ tgB ne sc st a q = true := by
          intro q _ _ hq
          obtain ⟨k, hk, -⟩ := rtg_iff.mp (tgB_y.mp hq)
          have := (g4 k).mpr hk
          rw [List.eq_nil_of_length_eq_zero h0] at this
          cases this
        rw [pin_no ne 0 c hno]
        obtain ⟨M, rfl⟩ : ∃ y, N = y + 1 := ⟨N - 1, by omega⟩
        rw [jf_Runs_pairAt_b23, jf_Book_size, Option.bind_some, if_neg (show ¬ nI ne ≤ 0 from p_nle (b := 0) (by omega) (by omega)), if_pos (show nI L.length ≤ 0 from by rw [h0]; decide), jf_Runs_pairAt_b72, nI_1]
        rfl
      · exact cPin hi hN hne hs han g2 g3 h0 g4 ne 0 c N (by omega) (by omega) hc
    rw [hstep, pout]
    have hle := pin_le (tg := tgB ne sc st a) (i := i) ne 0 c hc
    rcases hp : pin (tgB ne sc st a) i ne 0 c with ⟨_ | b, c'⟩
    · rw [hp] at hle
      exact ih (a + 1) c' g _ _ _ (by omega) (by omega) hle
    · exact ⟨_, _, _, rfl⟩
theorem mPin {a i : Nat} {k10 : Int32 → Int32 → Int32 → (Nat → Int32) → (Nat → Int32) → (Nat → Int32) → (Nat → Int32) → Option (Int32 × Int32 × (Nat → Int32) × (Nat → Int32) × (Nat → Int32) × (Nat → Int32))} (hi : i < 2147483648) (hne : ne ≤ 60) (hN : 400 ≤ N) (hd : dst ne sc st) (h5 : ∀ k, k < ne → 1 ≤ sc k ∧ sc k ≤ 5) (hs : ∀ k, k < ne → sm k = nI (sc k) ∧ sc k ≤ 5 ∧ ∀ i, i < sc k → ss (5 * k + i) = st (5 * k + i)) (ha : a < ne) : ∀ (d b c g : Nat) (tr : Int32) (ea fa t tw : Nat → Int32), b + d = ne → d < g → c ≤ i → ∃ (tr' : Int32) (ea' fa' t' tw' : Nat → Int32), jf_Model_pair_b21 N (nI i) (nI ne) sm ss k10 g (nI c) (nI a) (nI b) tr ea fa t tw = pgo (pin (tgB ne sc st a) i d b c) (fun b' => some (64 * nI a + nI b', tr', ea', fa', t', tw')) (fun c' => k10 (nI c') (nI (a + 1)) tr' ea' fa' t' tw') := by
  intro d
  induction d with
  | zero =>
    intro b c g tr ea fa t tw hb hg hc
    obtain ⟨g, rfl⟩ : ∃ y, g = y + 1 := ⟨g - 1, by omega⟩
    rw [jf_Model_pair_b21, if_pos (p_yle (by omega) (by omega)), jf_Model_pair_b66, nI_1, pin]
    exact ⟨_, _, _, _, _, rfl⟩
  | succ d ih =>
    intro b c g tr ea fa t tw hb hg hc
    obtain ⟨g, rfl⟩ : ∃ y, g = y + 1 := ⟨g - 1, by omega⟩
    obtain ⟨tr', ea', fa', t', tw', m1⟩ := mTog (tr := tr) (ea := ea) (fa := fa) (t := t) (tw := tw) hne hN hd h5 hs ha (b := b) (by omega)
    rw [jf_Model_pair_b21, if_neg (p_nle (by omega) (by omega)), m1, Option.bind_some, pin]
    dsimp only
    by_cases h : tgB ne sc st a b = true
    · rw [if_pos h, if_pos h, if_neg (by decide)]
      by_cases hci : c = i
      · rw [if_pos hci, if_pos (show nI c = nI i from by rw [hci]), jf_Model_pair_b48]
        exact ⟨_, _, _, _, _, rfl⟩
      · rw [if_neg hci, if_neg (p_ne hci (by omega) hi), jf_Model_pair_b60, nI_1, nI_1]
        exact ih (b + 1) (c + 1) g tr' ea' fa' t' tw' (by omega) (by omega) (by omega)
    · rw [if_neg h, if_neg h, if_pos rfl, jf_Model_pair_b60, nI_1]
      exact ih (b + 1) c g tr' ea' fa' t' tw' (by omega) (by omega) hc
theorem mPout {i : Nat} (hi : i < 2147483648) (hne : ne ≤ 60) (hN : 400 ≤ N) (hd : dst ne sc st) (h5 : ∀ k, k < ne → 1 ≤ sc k ∧ sc k ≤ 5) (hs : ∀ k, k < ne → sm k = nI (sc k) ∧ sc k ≤ 5 ∧ ∀ i, i < sc k → ss (5 * k + i) = st (5 * k + i)) : ∀ (d a c g : Nat) (tr : Int32) (ea fa t tw : Nat → Int32), a + d = ne → d < g → c ≤ i → ∃ (tr' : Int32) (ea' fa' t' tw' : Nat → Int32), jf_Model_pair_b10 N (nI i) (nI ne) sm ss g (nI c) (nI a) tr ea fa t tw = some (pout (tgB ne sc st) ne i d a c, tr', ea', fa', t', tw') := by
  intro d
  induction d with
  | zero =>
    intro a c g tr ea fa t tw ha hg hc
    obtain ⟨g, rfl⟩ : ∃ y, g = y + 1 := ⟨g - 1, by omega⟩
    rw [jf_Model_pair_b10, if_pos (p_yle (by omega) (by omega)), pout]
    exact ⟨_, _, _, _, _, rfl⟩
  | succ d ih =>
    intro a c g tr ea fa t tw ha hg hc
    obtain ⟨g, rfl⟩ : ∃ y, g = y + 1 := ⟨g - 1, by omega⟩
    obtain ⟨tr', ea', fa', t', tw', m1⟩ := mPin (k10 := jf_Model_pair_b10 N (nI i) (nI ne) sm ss g) hi hne hN hd h5 hs (a := a) (by omega) ne 0 c N tr ea fa t tw (by omega) (by omega) hc
    rw [jf_Model_pair_b10, if_neg (p_nle (by omega) (by omega)), show jf_Model_pair_b21 N (nI i) (nI ne) sm ss (jf_Model_pair_b10 N (nI i) (nI ne) sm ss g) N (nI c) (nI a) 0 tr ea fa t tw = _ from m1, pout]
    have hle := pin_le (tg := tgB ne sc st a) (i := i) ne 0 c hc
    rcases hp : pin (tgB ne sc st a) i ne 0 c with ⟨_ | b, c'⟩
    · rw [hp] at hle
      exact ih (a + 1) c' g _ _ _ _ _ (by omega) (by omega) hle
    · exact ⟨_, _, _, _, _, rfl⟩
/-- promise 19 -/
theorem op_pair {x z0 z1 tr : Int32} {lo ea fa t tw : Nat → Int32} (hne : ne ≤ 60) (hN : 400 ≤ N) (hd : dst ne sc st) (hs : scC ne sc st asc ast) (hm : ∀ k, k < ne → sm k = nI (sc k) ∧ sc k ≤ 5 ∧ ∀ i, i < sc k → ss (5 * k + i) = st (5 * k + i)) : ∃ (r z0' z1' tr' : Int32) (lo' ea' fa' t' tw' : Nat → Int32), jf_Room_pair N x (nI ne) asc ast z0 z1 lo = some (r, z0', z1', lo') ∧ jf_Model_pair N x (nI ne) sm ss tr ea fa t tw = some (r, tr', ea', fa', t', tw') := by
  by_cases h : x < 0
  · refine ⟨-1, z0, z1, tr, lo, ea, fa, t, tw, ?_, ?_⟩
    rotate_left
    · rw [jf_Model_pair, if_neg (Int32.not_le.mpr h)]
    · rw [jf_Room_pair, if_neg (Int32.not_le.mpr h)]
  · obtain ⟨i, hi, rfl⟩ := y_nn x h
    obtain ⟨z0', z1', lo', c1⟩ := cPout (N := N) hi (by omega) hne hs ne 0 0 N z0 z1 lo (by omega) (by omega) (Nat.zero_le i)
    obtain ⟨tr', ea', fa', t', tw', m1⟩ := mPout (N := N) hi hne hN hd (fun k hk => ⟨(hs k hk).2.1, (hs k hk).2.2.1⟩) hm ne 0 0 N tr ea fa t tw (by omega) (by omega) (Nat.zero_le i)
    refine ⟨pout (tgB ne sc st) ne i ne 0 0, z0', z1', tr', lo', ea', fa', t', tw', ?_, ?_⟩
    rotate_left
    · rw [jf_Model_pair, if_pos (Int32.not_lt.mp h)]
      exact m1
    · rw [jf_Room_pair, if_pos (Int32.not_lt.mp h), jf_Runs_pairAt]
      rw [show jf_Runs_pairAt_b4 N (nI ne) asc ast N (nI i) 0 z0 z1 lo = _ from c1, Option.bind_some]
end PR
