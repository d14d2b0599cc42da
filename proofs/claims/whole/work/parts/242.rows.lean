/-! the class lays a chain down; the reference's rows -/
theorem draftEntry_ok {k : Nat} {es : List Nat} {dr : Nat → Int32} (h : es.length < 60) (ha : ar dr (es.map nI)) : jf_Planner_draftEntry (nI k) (nI es.length) dr = some (nI (es ++ [k]).length, upd dr es.length (nI k)) ∧ ar (upd dr es.length (nI k)) ((es ++ [k]).map nI) := by
  have hp := ar_push (v := nI k) ha
  rw [List.length_map] at hp
  refine ⟨?_, by rw [List.map_append]; exact hp⟩
  rw [jf_Planner_draftEntry, if_neg (show ¬ 60 ≤ nI es.length from p_nle (a := 60) h (by omega)), p_ga h (by omega), p_cl (by omega), nI_1, List.length_append, List.length_singleton]
theorem pickAt_ok {p : Nat} {pi : Nat → Int32} (h : p < 60) : jf_Chain_pickAt (nI p) pi = some (pi p) := by
  rw [jf_Chain_pickAt, if_neg (p_n0 (by omega)), if_neg (show ¬ 60 ≤ nI p from p_nle (a := 60) h (by omega)), p_ga h (by omega), p_cl (by omega)]
section DCprefixed
variable {N ne : Nat} {kd : Nat → Int32} {sc : Nat → Nat} {st : Nat → Int32} {ln : Nat → Nat} {tx ask : Nat → Int32} {inn lst : Int32} {to : Nat}
theorem dch_prefixed {fr D : Nat} {al pi : Nat → Int32} (hne : ne ≤ 60) (hto : to ≤ 60) (hb : bkL ne kd sc ln inn lst) (hD : D ≤ to) (hal : ∀ k, k < ne → al k = nI (ln k)) (hpi : ∀ q, fr ≤ q → q < to → pi q = pckW (BF kd sc ln tx ask inn lst to ne D q)) : ∀ (n p nx g : Nat) (es : List Nat) (dr : Nat → Int32), p + n = to → n < g → fr ≤ p → p ≤ nx → nx ≤ to → ar dr (es.map nI) → es.length + (to - nx) ≤ 60 → (nx = to ∨ BF kd sc ln tx ask inn lst to ne D nx ≠ none) → ∃ dr', jf_Planner_draftChain_prefixed_b6 (nI to) (nI ne) al pi g (nI nx) (nI p) (nI es.length) dr = some (nI (es ++ wyl ln (BF kd sc ln tx ask inn lst to ne D) (to - nx) nx).length, dr') ∧ ar dr' ((es ++ wyl ln (BF kd sc ln tx ask inn lst to ne D) (to - nx) nx).map nI) := by
  intro n
  induction n with
  | zero =>
    intro p nx g es dr hp hg hf h1 h2 ha hl hB
    obtain ⟨g, rfl⟩ : ∃ y, g = y + 1 := ⟨g - 1, by omega⟩
    have : nx = to := by omega
    subst this
    refine ⟨dr, ?_, by rw [Nat.sub_self, wyl, List.append_nil]; exact ha⟩
    rw [jf_Planner_draftChain_prefixed_b6, if_pos (p_yle (by omega) (by omega)), Nat.sub_self, wyl, List.append_nil]
  | succ n ih =>
    intro p nx g es dr hp hg hf h1 h2 ha hl hB
    obtain ⟨g, rfl⟩ : ∃ y, g = y + 1 := ⟨g - 1, by omega⟩
    rw [jf_Planner_draftChain_prefixed_b6, if_neg (p_nle (by omega) (by omega))]
    by_cases e : p = nx
    · subst e
      have hB' : BF kd sc ln tx ask inn lst to ne D p ≠ none := by
        rcases hB with q | q
        · omega
        · exact q
      cases hw : BF kd sc ln tx ask inn lst to ne D p with
      | none => exact absurd hw hB'
      | some w =>
        obtain ⟨s, m, k⟩ := w
        have hS := BF_ok hb D hD _ _ _ _ hw
        obtain ⟨w1, w2, w3, w4, w5, w6, w7, -⟩ := id hS
        obtain ⟨d1, d2⟩ := draftEntry_ok (k := k) (es := es) (dr := dr) (by omega) ha
        have hpk : pi p = nI k := by rw [hpi p hf (by omega), hw, pckW]
        have hwl : wyl ln (BF kd sc ln tx ask inn lst to ne D) (to - p) p = k :: wyl ln (BF kd sc ln tx ask inn lst to ne D) (to - (p + ln k)) (p + ln k) := by
          rw [show to - p = (to - p - 1) + 1 by omega, wyl_next hw, wyl_fuel hb hD (to - p - 1) (to - (p + ln k)) (p + ln k) (by omega) (by omega)]
        obtain ⟨dr', r1, r2⟩ := ih (p + 1) (p + ln k) g (es ++ [k]) (upd dr es.length (nI k)) (by omega) (by omega) (by omega) (by omega) w2 d2 (by rw [List.length_append, List.length_singleton]; omega) (by
          obtain ⟨-, -, -, -, -, -, -, w8⟩ := hS
          rcases w8 with ⟨x1, -⟩ | ⟨x1, x2, s', m', k', x3, -⟩
          · exact Or.inl x1
          · exact Or.inr (by rw [x3]; exact fun z => by cases z))
        rw [List.append_assoc, List.singleton_append, ← hwl] at r1 r2
        refine ⟨dr', ?_, r2⟩
        rw [if_pos rfl, pickAt_ok (by omega), Option.bind_some, hpk, d1, Option.bind_some]
        dsimp only
        rw [Option.bind_some, Book_lengthOf_in w1 hne, hal k w1, Option.bind_some, nI_add, jf_Planner_draftChain_prefixed_b47, nI_1]
        exact r1
    · rw [if_neg (p_ne e (by omega) (by omega)), jf_Planner_draftChain_prefixed_b47, nI_1]
      exact ih (p + 1) nx g es dr (by omega) (by omega) (by omega) (by omega) h2 ha hl hB
end DCprefixed
section DCglued
variable {N ne : Nat} {kd : Nat → Int32} {sc : Nat → Nat} {st : Nat → Int32} {ln : Nat → Nat} {tx ask : Nat → Int32} {inn lst : Int32} {to : Nat}
theorem dch_glued {fr D : Nat} {al pi : Nat → Int32} (hne : ne ≤ 60) (hto : to ≤ 60) (hb : bkL ne kd sc ln inn lst) (hD : D ≤ to) (hal : ∀ k, k < ne → al k = nI (ln k)) (hpi : ∀ q, fr ≤ q → q < to → pi q = pckW (BF kd sc ln tx ask inn lst to ne D q)) : ∀ (n p nx g : Nat) (es : List Nat) (dr : Nat → Int32), p + n = to → n < g → fr ≤ p → p ≤ nx → nx ≤ to → ar dr (es.map nI) → es.length + (to - nx) ≤ 60 → (nx = to ∨ BF kd sc ln tx ask inn lst to ne D nx ≠ none) → ∃ dr', jf_Planner_draftChain_glued_b6 (nI to) (nI ne) al pi g (nI nx) (nI p) (nI es.length) dr = some (nI (es ++ wyl ln (BF kd sc ln tx ask inn lst to ne D) (to - nx) nx).length, dr') ∧ ar dr' ((es ++ wyl ln (BF kd sc ln tx ask inn lst to ne D) (to - nx) nx).map nI) := by
  intro n
  induction n with
  | zero =>
    intro p nx g es dr hp hg hf h1 h2 ha hl hB
    obtain ⟨g, rfl⟩ : ∃ y, g = y + 1 := ⟨g - 1, by omega⟩
    have : nx = to := by omega
    subst this
    refine ⟨dr, ?_, by rw [Nat.sub_self, wyl, List.append_nil]; exact ha⟩
    rw [jf_Planner_draftChain_glued_b6, if_pos (p_yle (by omega) (by omega)), Nat.sub_self, wyl, List.append_nil]
  | succ n ih =>
    intro p nx g es dr hp hg hf h1 h2 ha hl hB
    obtain ⟨g, rfl⟩ : ∃ y, g = y + 1 := ⟨g - 1, by omega⟩
    rw [jf_Planner_draftChain_glued_b6, if_neg (p_nle (by omega) (by omega))]
    by_cases e : p = nx
    · subst e
      have hB' : BF kd sc ln tx ask inn lst to ne D p ≠ none := by
        rcases hB with q | q
        · omega
        · exact q
      cases hw : BF kd sc ln tx ask inn lst to ne D p with
      | none => exact absurd hw hB'
      | some w =>
        obtain ⟨s, m, k⟩ := w
        have hS := BF_ok hb D hD _ _ _ _ hw
        obtain ⟨w1, w2, w3, w4, w5, w6, w7, -⟩ := id hS
        obtain ⟨d1, d2⟩ := draftEntry_ok (k := k) (es := es) (dr := dr) (by omega) ha
        have hpk : pi p = nI k := by rw [hpi p hf (by omega), hw, pckW]
        have hwl : wyl ln (BF kd sc ln tx ask inn lst to ne D) (to - p) p = k :: wyl ln (BF kd sc ln tx ask inn lst to ne D) (to - (p + ln k)) (p + ln k) := by
          rw [show to - p = (to - p - 1) + 1 by omega, wyl_next hw, wyl_fuel hb hD (to - p - 1) (to - (p + ln k)) (p + ln k) (by omega) (by omega)]
        obtain ⟨dr', r1, r2⟩ := ih (p + 1) (p + ln k) g (es ++ [k]) (upd dr es.length (nI k)) (by omega) (by omega) (by omega) (by omega) w2 d2 (by rw [List.length_append, List.length_singleton]; omega) (by
          obtain ⟨-, -, -, -, -, -, -, w8⟩ := hS
          rcases w8 with ⟨x1, -⟩ | ⟨x1, x2, s', m', k', x3, -⟩
          · exact Or.inl x1
          · exact Or.inr (by rw [x3]; exact fun z => by cases z))
        rw [List.append_assoc, List.singleton_append, ← hwl] at r1 r2
        refine ⟨dr', ?_, r2⟩
        rw [if_pos rfl, pickAt_ok (by omega), Option.bind_some, hpk, d1, Option.bind_some]
        dsimp only
        rw [Option.bind_some, Book_lengthOf_in w1 hne, hal k w1, Option.bind_some, nI_add, jf_Planner_draftChain_glued_b47, nI_1]
        exact r1
    · rw [if_neg (p_ne e (by omega) (by omega)), jf_Planner_draftChain_glued_b47, nI_1]
      exact ih (p + 1) nx g es dr (by omega) (by omega) (by omega) (by omega) h2 ha hl hB
end DCglued
/-- a place of the reference's rows holds a way -/
def wyR (w : Wy) (way wm ws : Nat → Int32) (q : Nat) : Prop := match w with
  | none => ws q = -1
  | some (s, m, k) => ws q = nI s ∧ wm q = nI m ∧ way q = nI k
theorem wyR_cong {w : Wy} {way wm ws way' wm' ws' : Nat → Int32} {q : Nat} (h : wyR w way wm ws q) (h1 : way' q = way q ∧ wm' q = wm q ∧ ws' q = ws q) : wyR w way' wm' ws' q := by
  obtain ⟨e1, e2, e3⟩ := h1
  unfold wyR at *
  cases w with
  | none => dsimp only at *; rw [e3]; exact h
  | some x =>
    obtain ⟨s, m, k⟩ := x
    dsimp only at *
    rw [e1, e2, e3]
    exact h
section MR
variable {N ne : Nat} {kd : Nat → Int32} {sc : Nat → Nat} {st : Nat → Int32} {ln : Nat → Nat} {tx ask : Nat → Int32} {inn lst : Int32} {to : Nat}
theorem byteOf_ok {k i : Nat} {mx : Nat → Int32} (hk : k < 60) (hi : i < 16) : jf_Model_byteOf (nI k) (nI i) mx = some (mx (16 * k + i) &&& 255) := by
  rw [jf_Model_byteOf, show (16 : Int32) = nI 16 from rfl, pk_mul, nI_add, p_ga (by omega) (by omega), p_cl (by omega)]
theorem here_z {k p g i : Nat} {ml mx : Nat → Int32} (hk : k < 60) : jf_Model_isHere_b22 (nI k) (nI p) ask ml mx (g + 1) 0 (nI i) = some 0 := by
  rw [jf_Model_isHere_b22, p_ga (by omega) (by omega), jgb_0]
  by_cases h : ml (nI k).toNatClampNeg ≤ nI i
  · rw [if_pos h]
  · rw [if_neg h, if_pos rfl]
theorem here_loop {k p : Nat} {ml mx : Nat → Int32} (hk : k < 60) (hl : ml k = nI (ln k)) (h16 : ln k ≤ 16) (hp : p + ln k ≤ to) (hto : to ≤ 60) (hask : ∀ j, j < to → ∃ m, m < 128 ∧ ask j = nI m) (htx : ∀ i, i < ln k → mx (16 * k + i) = tx (16 * k + i) ∧ ∃ m, m < 128 ∧ tx (16 * k + i) = nI m) : ∀ (d i g : Nat), i + d = ln k → d + 1 < g → (∀ j, j < i → ask (p + j) = tx (16 * k + j)) → ∃ z, jf_Model_isHere_b22 (nI k) (nI p) ask ml mx g 1 (nI i) = some z ∧ (lets tx ask k (ln k) p → z = 1) ∧ (¬ lets tx ask k (ln k) p → z = 0) := by
  intro d
  induction d with
  | zero =>
    intro i g hi hg hq
    obtain ⟨g, rfl⟩ : ∃ y, g = y + 1 := ⟨g - 1, by omega⟩
    refine ⟨1, ?_, fun _ => rfl, fun h => absurd (fun j hj => hq j (by omega)) h⟩
    rw [jf_Model_isHere_b22, p_ga (by omega) (by omega), p_cl (by omega), hl, if_pos (p_yle (by omega) (by omega)), jgb_1]
  | succ d ih =>
    intro i g hi hg hq
    obtain ⟨g, rfl⟩ : ∃ y, g = y + 1 + 1 := ⟨g - 2, by omega⟩
    obtain ⟨t1, m1, m2, m3⟩ := htx i (by omega)
    obtain ⟨n1, n2, n3⟩ := hask (p + i) (by omega)
    rw [jf_Model_isHere_b22, p_ga (by omega) (by omega), p_cl (by omega), hl, if_neg (p_nle (by omega) (by omega)), if_neg (by decide), byteOf_ok hk (by omega), Option.bind_some, nI_add, p_ga (by omega) (by omega), p_cl (by omega), t1, m3, n3, nI_low m2, nI_low n2]
    by_cases he : ask (p + i) = tx (16 * k + i)
    · rw [if_pos (by rw [← m3, ← n3, he]), jf_Model_isHere_b66, nI_1]
      exact ih (i + 1) (g + 1) (by omega) (by omega) (fun j hj => by
        rcases Nat.lt_or_ge j i with w | w
        · exact hq j w
        · rw [show j = i by omega]; exact he)
    · rw [if_neg (by rw [← m3, ← n3]; exact fun z => he z.symm), jf_Model_isHere_b66, nI_1, here_z hk]
      exact ⟨0, rfl, fun h => absurd (h i (by omega)) he, fun _ => rfl⟩
theorem isHere_ok {k p : Nat} {ml mx : Nat → Int32} (hN : 100 ≤ N) (hk : k < 60) (hl : ml k = nI (ln k)) (h16 : ln k ≤ 16) (hpt : p < to) (hto : to ≤ 60) (hask : ∀ j, j < to → ∃ m, m < 128 ∧ ask j = nI m) (htx : ∀ i, i < ln k → mx (16 * k + i) = tx (16 * k + i) ∧ ∃ m, m < 128 ∧ tx (16 * k + i) = nI m) : ∃ z, jf_Model_isHere N (nI k) (nI p) (nI to) ask ml mx = some z ∧ (p + ln k ≤ to ∧ lets tx ask k (ln k) p → z = 1) ∧ (¬ (p + ln k ≤ to ∧ lets tx ask k (ln k) p) → z = 0) := by
  obtain ⟨M, rfl⟩ : ∃ y, N = y + 1 := ⟨N - 1, by omega⟩
  rw [jf_Model_isHere, p_ga (by omega) (by omega), p_cl (by omega), hl, nI_add]
  rcases Nat.lt_or_ge to (p + ln k) with h | h
  · rw [if_pos (p_ylt h (by omega)), jf_Model_isHere_b17, show jf_Model_isHere_b22 (nI k) (nI p) ask ml mx (M + 1) 0 0 = some 0 from here_z (i := 0) hk]
    exact ⟨0, rfl, fun q => by omega, fun _ => rfl⟩
  · obtain ⟨z, z1, z2, z3⟩ := here_loop (tx := tx) hk hl h16 h hto hask htx (ln k) 0 (M + 1) (by omega) (by omega) (fun j hj => absurd hj (Nat.not_lt_zero j))
    rw [if_neg (p_nlt h (by omega)), jf_Model_isHere_b17]
    exact ⟨z, z1, fun q => z2 q.2, fun q => z3 (fun w => q ⟨h, w⟩)⟩
theorem mr217 {k40 : Int32 → Int32 → Int32 → Int32 → Int32 → (Nat → Int32) → (Nat → Int32) → (Nat → Int32) → (Nat → Int32) → (Nat → Int32) → Option (Int32 × Int32 × Int32 × Int32 × (Nat → Int32) × (Nat → Int32) × (Nat → Int32) × (Nat → Int32) × (Nat → Int32))} {k63 : Int32 → Int32 → Int32 → Int32 → Int32 → Int32 → Int32 → (Nat → Int32) → (Nat → Int32) → (Nat → Int32) → (Nat → Int32) → (Nat → Int32) → Option (Int32 × Int32 × Int32 × Int32 × (Nat → Int32) × (Nat → Int32) × (Nat → Int32) × (Nat → Int32) × (Nat → Int32))} {w : Wy} {s m K q : Nat} {x4 z0 z1 bm bs tm ts : Int32} {be tr way wm ws : Nat → Int32} (hq : q < 61) (hW : wyR w way wm ws q) (hsm : smW w) (hs : s ≤ 600) (hm : m ≤ 61) (hz : z0 + z1 = nI m) : ∃ way' wm' ws', jf_Model_rows_b217 k40 k63 x4 (nI q) (nI K) (nI s) z0 z1 bm bs tm ts be tr way wm ws = k63 x4 (nI q) (nI (K + 1)) bm bs tm ts be tr way' wm' ws' ∧ wyR (bett w (some (s, m)) K) way' wm' ws' q ∧ ∀ r, r ≠ q → way' r = way r ∧ wm' r = wm r ∧ ws' r = ws r := by
  have upd1 : ∃ way' wm' ws', jf_Model_rows_b270 k40 k63 x4 (nI q) (nI K) (nI s) (nI m) bm bs tm ts be tr way wm ws = k63 x4 (nI q) (nI (K + 1)) bm bs tm ts be tr way' wm' ws' ∧ wyR (some (s, m, K)) way' wm' ws' q ∧ ∀ r, r ≠ q → way' r = way r ∧ wm' r = wm r ∧ ws' r = ws r := by
    rw [jf_Model_rows_b270, p_ga (by omega) (by omega), p_ga (by omega) (by omega), p_ga (by omega) (by omega), p_cl (by omega), jf_Model_rows_b297, nI_1]
    refine ⟨_, _, _, rfl, ⟨p_upd_s, p_upd_s, p_upd_s⟩, fun r hr => ⟨p_upd_n hr, p_upd_n hr, p_upd_n hr⟩⟩
  have skip : ∃ way' wm' ws', jf_Model_rows_b297 k40 k63 x4 (nI q) (nI K) bm bs tm ts be tr way wm ws = k63 x4 (nI q) (nI (K + 1)) bm bs tm ts be tr way' wm' ws' ∧ wyR w way' wm' ws' q ∧ ∀ r, r ≠ q → way' r = way r ∧ wm' r = wm r ∧ ws' r = ws r := by
    rw [jf_Model_rows_b297, nI_1]
    exact ⟨_, _, _, rfl, hW, fun r _ => ⟨rfl, rfl, rfl⟩⟩
  rw [jf_Model_rows_b217, p_ga (by omega) (by omega), p_cl (by omega), hz]
  cases w with
  | none =>
    rw [if_pos (show ws q = -1 from hW)]
    exact upd1
  | some x =>
    obtain ⟨s', m', k'⟩ := x
    obtain ⟨w1, w2, w3⟩ := id hW
    obtain ⟨b1, b2, b3, b4⟩ := hsm s' m' k' rfl
    rw [w1, if_neg (show ¬ nI s' = -1 from fun z => cast (p_m1 (n := s') (by omega)) z), p_ga (by omega) (by omega), p_ga (by omega) (by omega), p_ga (by omega) (by omega), w2]
    unfold bett
    dsimp only
    rcases Nat.lt_trichotomy s' s with h | h | h
    · rw [if_pos (p_ylt h (by omega)), if_neg (by omega)]
      exact skip
    · subst h
      rw [if_neg (p_nlt (Nat.le_refl _) (by omega)), if_pos rfl]
      rcases Nat.lt_or_ge m m' with g | g
      · rw [if_pos (p_ylt g (by omega)), if_pos (by omega)]
        exact upd1
      · rw [if_neg (p_nlt g (by omega)), if_neg (by omega)]
        exact skip
    · rw [if_neg (p_nlt (by omega) (by omega)), if_neg (p_ne (by omega) (by omega) (by omega)), if_pos (by omega)]
      exact upd1
/-- the reference's rows of entries -/
def rwM (ne : Nat) (kd : Nat → Int32) (sc ln : Nat → Nat) (tx mk mc ml mx : Nat → Int32) : Prop := ∀ k, k < ne → mk k = kd k ∧ mc k = nI (sc k) ∧ ml k = nI (ln k) ∧ ∀ i, i < ln k → mx (16 * k + i) = tx (16 * k + i) ∧ ∃ m, m < 128 ∧ tx (16 * k + i) = nI m
theorem mr135 {k40 : Int32 → Int32 → Int32 → Int32 → Int32 → (Nat → Int32) → (Nat → Int32) → (Nat → Int32) → (Nat → Int32) → (Nat → Int32) → Option (Int32 × Int32 × Int32 × Int32 × (Nat → Int32) × (Nat → Int32) × (Nat → Int32) × (Nat → Int32) × (Nat → Int32))} {k63 : Int32 → Int32 → Int32 → Int32 → Int32 → Int32 → Int32 → (Nat → Int32) → (Nat → Int32) → (Nat → Int32) → (Nat → Int32) → (Nat → Int32) → Option (Int32 × Int32 × Int32 × Int32 × (Nat → Int32) × (Nat → Int32) × (Nat → Int32) × (Nat → Int32) × (Nat → Int32))} {B : Nat → Wy} {w : Wy} {K p q : Nat} {x8 bm bs tm ts : Int32} {be tr way wm ws mk mc ml mx : Nat → Int32} (hN : 100 ≤ N) (hne : ne ≤ 60) (hK : K < ne) (hb : bkL ne kd sc ln inn lst) (hA : rwM ne kd sc ln tx mk mc ml mx) (hto : to ≤ 60) (hp : p < to) (hqp : q ≤ p) (hask : ∀ j, j < to → ∃ m, m < 128 ∧ ask j = nI m) (hW : wyR w way wm ws q) (hsm : smW w) (hc : p + ln K ≤ to → (¬ x8 = 0 ∧ cth kd sc ln tx ask inn lst to B p K = some (sc K, 1)) ∨ (x8 = 0 ∧ ws (q + ln K) = -1 ∧ cth kd sc ln tx ask inn lst to B p K = none) ∨ (x8 = 0 ∧ ∃ s m, s ≤ 300 ∧ m ≤ 60 ∧ ws (q + ln K) = nI s ∧ wm (q + ln K) = nI m ∧ cth kd sc ln tx ask inn lst to B p K = some (sc K + s, 1 + m))) : ∃ way' wm' ws', jf_Model_rows_b135 N (nI to) ask mc ml mx k40 k63 (nI p) (nI q) (nI K) (nI (ln K)) x8 bm bs tm ts be tr way wm ws = k63 (nI p) (nI q) (nI (K + 1)) bm bs tm ts be tr way' wm' ws' ∧ wyR (bett w (cnd kd sc ln tx ask inn lst to B p K) K) way' wm' ws' q ∧ ∀ r, r ≠ q → way' r = way r ∧ wm' r = wm r ∧ ws' r = ws r := by
  obtain ⟨b1, b2, b3⟩ := hb K hK
  obtain ⟨a1, a2, a3, a4⟩ := hA K hK
  obtain ⟨z, z1, z2, z3⟩ := isHere_ok (N := N) (ask := ask) (k := K) hN (by omega) a3 b2 hp hto hask a4
  have skip : cnd kd sc ln tx ask inn lst to B p K = none → ∃ way' wm' ws', jf_Model_rows_b297 k40 k63 (nI p) (nI q) (nI K) bm bs tm ts be tr way wm ws = k63 (nI p) (nI q) (nI (K + 1)) bm bs tm ts be tr way' wm' ws' ∧ wyR (bett w (cnd kd sc ln tx ask inn lst to B p K) K) way' wm' ws' q ∧ ∀ r, r ≠ q → way' r = way r ∧ wm' r = wm r ∧ ws' r = ws r := by
    intro h
    rw [jf_Model_rows_b297, nI_1, h]
    exact ⟨_, _, _, rfl, hW, fun r _ => ⟨rfl, rfl, rfl⟩⟩
  rw [jf_Model_rows_b135, z1, Option.bind_some]
  by_cases hh : p + ln K ≤ to ∧ lets tx ask K (ln K) p
  · obtain ⟨h1, h2⟩ := hh
    rw [z2 ⟨h1, h2⟩, if_neg (by decide), nI_add, p_ga (by omega) (by omega)]
    rw [cnd_y h2] at skip ⊢
    rcases hc h1 with ⟨c1, c2⟩ | ⟨c1, c2, c3⟩ | ⟨c1, s, m, c2, c3, c4, c5, c6⟩
    · rw [if_neg c1, jf_Model_rows_b176, p_ga (by omega) (by omega), if_neg c1, jf_Model_rows_b194, if_neg c1, p_cl (by omega), a2, c2, show nI (sc K) + 0 = nI (sc K) from nI_add (sc K) 0]
      exact mr217 (by omega) hW hsm (by omega) (by omega) rfl
    · rw [if_pos c1, p_cl (by omega), c2, if_pos rfl]
      exact skip c3
    · rw [if_pos c1, p_cl (by omega), c4, if_neg (show ¬ nI s = -1 from fun z => cast (p_m1 (n := s) (by omega)) z), jf_Model_rows_b176, p_ga (by omega) (by omega), if_pos c1, jf_Model_rows_b194, if_pos c1, nI_add, p_ga (by omega) (by omega), p_cl (by omega), p_cl (by omega), a2, c5, c6, nI_add]
      exact mr217 (by omega) hW hsm (by omega) (by omega) (nI_add 1 m)
  · rw [z3 hh, if_pos rfl]
    refine skip ?_
    by_cases h2 : lets tx ask K (ln K) p
    · refine cnd_th ?_
      unfold cth
      have h3 : ¬ p + ln K ≤ to := fun z => hh ⟨z, h2⟩
      rw [if_neg (by omega), if_pos (by omega)]
    · exact cnd_n h2
/-- what the reference's rows hold behind the word's end -/
def glR (x3 inn lst : Int32) (wm ws : Nat → Int32) (e : Nat) : Prop := (x3 = 0 ∧ inn = 1 ∧ lst = 0 ∧ ws e = -1) ∨ (x3 = 1 ∧ inn = 5 ∧ lst = 5 ∧ ws e = 0 ∧ wm e = 0)
theorem mr_step {k40 : Int32 → Int32 → Int32 → Int32 → Int32 → (Nat → Int32) → (Nat → Int32) → (Nat → Int32) → (Nat → Int32) → (Nat → Int32) → Option (Int32 × Int32 × Int32 × Int32 × (Nat → Int32) × (Nat → Int32) × (Nat → Int32) × (Nat → Int32) × (Nat → Int32))} {fr d K g p q : Nat} {x3 bm bs tm ts : Int32} {be tr way wm ws mk mc ml mx : Nat → Int32} (hN : 100 ≤ N) (hne : ne ≤ 60) (hK : K < ne) (hb : bkL ne kd sc ln inn lst) (hA : rwM ne kd sc ln tx mk mc ml mx) (hto : to ≤ 60) (hp : p + (d + 1) = to) (hqp : p = fr + q) (hask : ∀ j, j < to → ∃ m, m < 128 ∧ ask j = nI m) (hW : wyR (fld kd sc ln tx ask inn lst to (BF kd sc ln tx ask inn lst to ne d) p K) way wm ws q) (hg : glR x3 inn lst wm ws (to - fr)) (hB : ∀ r, q < r → fr + r < to → wyR (BF kd sc ln tx ask inn lst to ne d (fr + r)) way wm ws r) : ∃ way' wm' ws', jf_Model_rows_b63 N (nI to) x3 (nI ne) ask mk mc ml mx k40 (g + 1) (nI p) (nI q) (nI K) bm bs tm ts be tr way wm ws = jf_Model_rows_b63 N (nI to) x3 (nI ne) ask mk mc ml mx k40 g (nI p) (nI q) (nI (K + 1)) bm bs tm ts be tr way' wm' ws' ∧ wyR (fld kd sc ln tx ask inn lst to (BF kd sc ln tx ask inn lst to ne d) p (K + 1)) way' wm' ws' q ∧ ∀ r, r ≠ q → way' r = way r ∧ wm' r = wm r ∧ ws' r = ws r := by
  obtain ⟨b1, b2, b3⟩ := hb K hK
  obtain ⟨a1, a2, a3, a4⟩ := hA K hK
  have hsm := fld_sm (tx := tx) (ask := ask) hb hne hto hp (K := K) (by omega)
  have skip : cth kd sc ln tx ask inn lst to (BF kd sc ln tx ask inn lst to ne d) p K = none → ∃ way' wm' ws', jf_Model_rows_b297 k40 (jf_Model_rows_b63 N (nI to) x3 (nI ne) ask mk mc ml mx k40 g) (nI p) (nI q) (nI K) bm bs tm ts be tr way wm ws = jf_Model_rows_b63 N (nI to) x3 (nI ne) ask mk mc ml mx k40 g (nI p) (nI q) (nI (K + 1)) bm bs tm ts be tr way' wm' ws' ∧ wyR (fld kd sc ln tx ask inn lst to (BF kd sc ln tx ask inn lst to ne d) p (K + 1)) way' wm' ws' q ∧ ∀ r, r ≠ q → way' r = way r ∧ wm' r = wm r ∧ ws' r = ws r := by
    intro h
    rw [jf_Model_rows_b297, nI_1, fld, cnd_th h]
    exact ⟨_, _, _, rfl, hW, fun r _ => ⟨rfl, rfl, rfl⟩⟩
  have inner : kd K = inn → (p + ln K = to → (ws (to - fr) = -1 ∧ ¬ inn = lst) ∨ (ws (to - fr) = 0 ∧ wm (to - fr) = 0 ∧ inn = lst)) → (p + ln K ≤ to → (¬ (0 : Int32) = 0 ∧ cth kd sc ln tx ask inn lst to (BF kd sc ln tx ask inn lst to ne d) p K = some (sc K, 1)) ∨ ((0 : Int32) = 0 ∧ ws (q + ln K) = -1 ∧ cth kd sc ln tx ask inn lst to (BF kd sc ln tx ask inn lst to ne d) p K = none) ∨ ((0 : Int32) = 0 ∧ ∃ s m, s ≤ 300 ∧ m ≤ 60 ∧ ws (q + ln K) = nI s ∧ wm (q + ln K) = nI m ∧ cth kd sc ln tx ask inn lst to (BF kd sc ln tx ask inn lst to ne d) p K = some (sc K + s, 1 + m))) := by
    intro h1 h2 h3
    right
    have hl := b3 (Or.inl h1)
    by_cases e : p + ln K = to
    · have e2 : q + ln K = to - fr := by omega
      rw [e2]
      have hct : cth kd sc ln tx ask inn lst to (BF kd sc ln tx ask inn lst to ne d) p K = if kd K = lst then some (sc K, 1) else none := by
        unfold cth
        rw [if_pos e]
      rcases h2 e with ⟨x1, x2⟩ | ⟨x1, x2, x3⟩
      · left
        exact ⟨rfl, x1, by rw [hct, if_neg (by rw [h1]; exact x2)]⟩
      · right
        exact ⟨rfl, 0, 0, by omega, by omega, x1, x2, by rw [hct, if_pos (by rw [h1]; exact x3)]; rfl⟩
    · have hr := hB (q + ln K) (by omega) (by omega)
      rw [show fr + (q + ln K) = p + ln K by omega] at hr
      have hct : cth kd sc ln tx ask inn lst to (BF kd sc ln tx ask inn lst to ne d) p K = match BF kd sc ln tx ask inn lst to ne d (p + ln K) with
          | none => none
          | some (s, m, _) => some (sc K + s, 1 + m) := by
        unfold cth
        rw [if_neg e, if_neg (by omega), if_pos h1]
        rfl
      have hsb := BF_sm (tx := tx) (ask := ask) (q := p + ln K) (d := d) hb hne hto (by omega)
      cases hw : BF kd sc ln tx ask inn lst to ne d (p + ln K) with
      | none =>
        rw [hw] at hr hct
        left
        exact ⟨rfl, hr, hct⟩
      | some x =>
        obtain ⟨s, m, k⟩ := x
        rw [hw] at hr hct hsb
        obtain ⟨s1, s2, s3, s4⟩ := hsb s m k rfl
        right
        exact ⟨rfl, s, m, s1, s3, hr.1, hr.2.1, hct⟩
  rw [jf_Model_rows_b63, if_neg (p_nle (by omega) (by omega)), p_ga (by omega) (by omega), p_cl (by omega), a1, a3]
  have low : (kd K = inn → (p + ln K = to → (ws (to - fr) = -1 ∧ ¬ inn = lst) ∨ (ws (to - fr) = 0 ∧ wm (to - fr) = 0 ∧ inn = lst))) → (¬ kd K = inn → cth kd sc ln tx ask inn lst to (BF kd sc ln tx ask inn lst to ne d) p K = none) → ∀ z1 : Int32, z1 = inn → ∃ way' wm' ws', jf_Model_rows_b132 N (nI to) ask mc ml mx k40 (jf_Model_rows_b63 N (nI to) x3 (nI ne) ask mk mc ml mx k40 g) (nI p) (nI q) (nI K) (nI (ln K)) 0 (kd K) z1 bm bs tm ts be tr way wm ws = jf_Model_rows_b63 N (nI to) x3 (nI ne) ask mk mc ml mx k40 g (nI p) (nI q) (nI (K + 1)) bm bs tm ts be tr way' wm' ws' ∧ wyR (fld kd sc ln tx ask inn lst to (BF kd sc ln tx ask inn lst to ne d) p (K + 1)) way' wm' ws' q ∧ ∀ r, r ≠ q → way' r = way r ∧ wm' r = wm r ∧ ws' r = ws r := by
    intro h1 h2 z1 hz
    rw [jf_Model_rows_b132, hz]
    by_cases h : kd K = inn
    · rw [if_pos h, fld]
      exact mr135 (x8 := 0) hN hne hK hb hA hto (by omega) (by omega) hask hW hsm (inner h (h1 h))
    · rw [if_neg h]
      exact skip (h2 h)
  rcases hg with ⟨g1, g2, g3, g4⟩ | ⟨g1, g2, g3, g4, g5⟩
  · rw [if_pos g1, p_ga (by omega) (by omega)]
    have low' := low (fun h e => Or.inl ⟨g4, by rw [g2, g3]; decide⟩)
    by_cases hk0 : kd K = 0
    · rw [if_pos hk0, nI_add]
      by_cases e : p + ln K = to
      · rw [if_pos (by rw [e]), jf_Model_rows_b109, if_neg (by decide), fld]
        exact mr135 (x8 := 1) hN hne hK hb hA hto (by omega) (by omega) hask hW hsm (fun _ => Or.inl ⟨by decide, by unfold cth; rw [if_pos e, if_pos (by rw [hk0, g3])]⟩)
      · rw [if_neg (p_ne e (by omega) (by omega)), jf_Model_rows_b108, jf_Model_rows_b109, if_pos rfl, p_ga (by omega) (by omega), if_pos g1, p_cl (by omega), a1]
        refine low' (fun h => ?_) 1 g2.symm
        unfold cth
        rw [if_neg e, if_neg h]
        by_cases e3 : to < p + ln K
        · rw [if_pos e3]
        · rw [if_neg e3]
    · rw [if_neg hk0, jf_Model_rows_b108, jf_Model_rows_b109, if_pos rfl, p_ga (by omega) (by omega), if_pos g1, p_cl (by omega), a1]
      refine low' (fun h => ?_) 1 g2.symm
      unfold cth
      by_cases e : p + ln K = to
      · rw [if_pos e, if_neg (by rw [g3]; exact hk0)]
      · rw [if_neg e, if_neg h]
        by_cases e3 : to < p + ln K
        · rw [if_pos e3]
        · rw [if_neg e3]
  · have low' := low (fun h e => Or.inr ⟨g4, g5, by rw [g2, g3]⟩)
    rw [if_neg (by rw [g1]; decide), jf_Model_rows_b108, jf_Model_rows_b109, if_pos rfl, p_ga (by omega) (by omega), if_neg (by rw [g1]; decide), p_cl (by omega), a1]
    refine low' (fun h => ?_) 5 g2.symm
    unfold cth
    by_cases e : p + ln K = to
    · rw [if_pos e, if_neg (by rw [g3, ← g2]; exact h)]
    · rw [if_neg e, if_neg h]
      by_cases e3 : to < p + ln K
      · rw [if_pos e3]
      · rw [if_neg e3]
theorem mr_loop {k40 : Int32 → Int32 → Int32 → Int32 → Int32 → (Nat → Int32) → (Nat → Int32) → (Nat → Int32) → (Nat → Int32) → (Nat → Int32) → Option (Int32 × Int32 × Int32 × Int32 × (Nat → Int32) × (Nat → Int32) × (Nat → Int32) × (Nat → Int32) × (Nat → Int32))} {fr d p q : Nat} {x3 bm bs tm ts : Int32} {be tr mk mc ml mx : Nat → Int32} (hN : 100 ≤ N) (hne : ne ≤ 60) (hb : bkL ne kd sc ln inn lst) (hA : rwM ne kd sc ln tx mk mc ml mx) (hto : to ≤ 60) (hp : p + (d + 1) = to) (hqp : p = fr + q) (hask : ∀ j, j < to → ∃ m, m < 128 ∧ ask j = nI m) : ∀ (e K g : Nat) (way wm ws : Nat → Int32), K + e = ne → e < g → wyR (fld kd sc ln tx ask inn lst to (BF kd sc ln tx ask inn lst to ne d) p K) way wm ws q → glR x3 inn lst wm ws (to - fr) → (∀ r, q < r → fr + r < to → wyR (BF kd sc ln tx ask inn lst to ne d (fr + r)) way wm ws r) → ∃ way' wm' ws', jf_Model_rows_b63 N (nI to) x3 (nI ne) ask mk mc ml mx k40 g (nI p) (nI q) (nI K) bm bs tm ts be tr way wm ws = k40 (nI p + (-1)) bm bs tm ts be tr way' wm' ws' ∧ glR x3 inn lst wm' ws' (to - fr) ∧ ∀ r, q ≤ r → fr + r < to → wyR (BF kd sc ln tx ask inn lst to ne (d + 1) (fr + r)) way' wm' ws' r := by
  intro e
  induction e with
  | zero =>
    intro K g way wm ws hK hg hW hgl hB
    obtain ⟨g, rfl⟩ : ∃ y, g = y + 1 := ⟨g - 1, by omega⟩
    have : K = ne := by omega
    subst this
    refine ⟨way, wm, ws, ?_, hgl, fun r h1 h2 => ?_⟩
    · rw [jf_Model_rows_b63, if_pos (p_yle (by omega) (by omega)), jf_Model_rows_b303]
    · by_cases er : r = q
      · subst er
        have := BF_at (ne := K) (kd := kd) (sc := sc) (ln := ln) (tx := tx) (ask := ask) (inn := inn) (lst := lst) (to := to) (d := d)
        rw [show to - (d + 1) = fr + r by omega] at this
        rw [this, ← hqp]
        exact hW
      · rw [BF_ot (by omega)]
        exact hB r (by omega) h2
  | succ e ih =>
    intro K g way wm ws hK hg hW hgl hB
    obtain ⟨g, rfl⟩ : ∃ y, g = y + 1 := ⟨g - 1, by omega⟩
    obtain ⟨way1, wm1, ws1, h1, h2, h3⟩ := mr_step (N := N) (k40 := k40) (K := K) (g := g) (x3 := x3) (bm := bm) (bs := bs) (tm := tm) (ts := ts) (be := be) (tr := tr) hN hne (by omega) hb hA hto hp hqp hask hW hgl hB
    rw [h1]
    refine ih (K + 1) g way1 wm1 ws1 (by omega) (by omega) h2 ?_ (fun r r1 r2 => wyR_cong (hB r r1 r2) (h3 r (by omega)))
    obtain ⟨-, q2, q3⟩ := h3 (to - fr) (by omega)
    unfold glR
    rw [q2, q3]
    exact hgl
theorem mr_all {fr : Nat} {x3 bm bs tm ts : Int32} {be tr mk mc ml mx : Nat → Int32} (hN : 100 ≤ N) (hne : ne ≤ 60) (hb : bkL ne kd sc ln inn lst) (hA : rwM ne kd sc ln tx mk mc ml mx) (hto : to ≤ 60) (hfr : fr < to) (hask : ∀ j, j < to → ∃ m, m < 128 ∧ ask j = nI m) : ∀ (n e g : Nat) (way wm ws : Nat → Int32), e = fr + n → n < g → e ≤ to → glR x3 inn lst wm ws (to - fr) → (∀ r, e ≤ fr + r → fr + r < to → wyR (BF kd sc ln tx ask inn lst to ne (to - e) (fr + r)) way wm ws r) → ∃ way' wm' ws', jf_Model_rows_b40 N (nI fr) (nI to) x3 (nI ne) ask mk mc ml mx g (nI e - 1) bm bs tm ts be tr way wm ws = jf_Model_rows_b309 N (nI fr) (nI to) mc ml bm bs tm ts be tr way' wm' ws' ∧ ∀ r, fr + r < to → wyR (BF kd sc ln tx ask inn lst to ne (to - fr) (fr + r)) way' wm' ws' r := by
  intro n
  induction n with
  | zero =>
    intro e g way wm ws he hg hle hgl hB
    obtain ⟨g, rfl⟩ : ∃ y, g = y + 1 := ⟨g - 1, by omega⟩
    have : e = fr := by omega
    subst this
    have hlt : nI e - 1 < nI e := by
      rcases Nat.eq_zero_or_pos e with h0 | h0
      · subst h0; decide
      · rw [p_s1 h0]; exact p_ylt (by omega) (by omega)
    refine ⟨way, wm, ws, ?_, fun r h => hB r (by omega) h⟩
    rw [jf_Model_rows_b40, if_pos hlt]
  | succ n ih =>
    intro e g way wm ws he hg hle hgl hB
    obtain ⟨g, rfl⟩ : ∃ y, g = y + 1 := ⟨g - 1, by omega⟩
    have hgl' : glR x3 inn lst wm (upd ws (e - 1 - fr) (-1)) (to - fr) := by
      unfold glR
      rw [p_upd_n (by omega)]
      exact hgl
    obtain ⟨way1, wm1, ws1, h1, h2, h3⟩ := mr_loop (N := N) (k40 := jf_Model_rows_b40 N (nI fr) (nI to) x3 (nI ne) ask mk mc ml mx g) (fr := fr) (d := to - e) (p := e - 1) (q := e - 1 - fr) (x3 := x3) (bm := bm) (bs := bs) (tm := tm) (ts := ts) (be := be) (tr := tr) hN hne hb hA hto (by omega) (by omega) hask ne 0 N way wm (upd ws (e - 1 - fr) (-1)) (by omega) (by omega) (by rw [fld]; exact p_upd_s) hgl' (fun r r1 r2 => wyR_cong (hB r (by omega) r2) ⟨rfl, rfl, p_upd_n (by omega)⟩)
    obtain ⟨way', wm', ws', h4, h5⟩ := ih (e - 1) g way1 wm1 ws1 (by omega) (by omega) (by omega) h2 (fun r r1 r2 => by
      rw [show to - (e - 1) = to - e + 1 by omega]
      exact h3 r (by omega) r2)
    refine ⟨way', wm', ws', ?_, h5⟩
    rw [jf_Model_rows_b40, p_s1 (by omega), if_neg (p_nlt (by omega) (by omega)), p_sub (by omega), p_ga (by omega) (by omega), p_cl (by omega)]
    rw [show jf_Model_rows_b63 N (nI to) x3 (nI ne) ask mk mc ml mx (jf_Model_rows_b40 N (nI fr) (nI to) x3 (nI ne) ask mk mc ml mx g) N (nI (e - 1)) (nI (e - 1 - fr)) 0 bm bs tm ts be tr way wm (upd ws (e - 1 - fr) (-1)) = _ from h1, ← p_sm]
    exact h4
end MR
