/-! a word and a suffix, joined: is it the word that is asked for -/
/-- the letters of entry k -/
def wd (ln : Nat → Nat) (tx : Nat → Int32) (k : Nat) : List Int32 := wl (fun j => tx (16 * k + j)) (ln k) 0
def jdP (ln : Nat → Nat) (tx ask : Nat → Int32) (fr to w s : Nat) : Prop := sfx (wd ln tx w) (ln w) s (ln s) tx = wl ask (to - fr) fr
theorem jn_pre {l : List Int32} {n : Nat} {x : Int32} {s : Bool} (hl : 1 ≤ l.length) (hn : n ≤ l.length) : (∃ t, jn l n x s = l.dropLast ++ t) ∧ 1 ≤ (jn l n x s).length := by
  have hne : l ≠ [] := by
    intro z
    rw [z, List.length_nil] at hl
    omega
  have hsp : l = l.dropLast ++ [l.getLast hne] := (List.dropLast_concat_getLast hne).symm
  have hdl : l.dropLast.length = l.length - 1 := List.length_dropLast
  unfold jn
  by_cases h1 : rl l n x s = 1
  · rw [if_pos h1]
    by_cases hs : s = true
    · rw [if_pos hs, List.append_assoc]
      exact ⟨⟨_, rfl⟩, by rw [List.length_append, List.length_append, List.length_singleton]; omega⟩
    · rw [if_neg hs]
      exact ⟨⟨_, rfl⟩, by rw [List.length_append, List.length_singleton]; omega⟩
  · rw [if_neg h1]
    by_cases h2 : rl l n x s = 2
    · rw [if_pos h2]
      refine ⟨⟨[l.getLast hne] ++ [101], ?_⟩, by rw [List.length_append]; omega⟩
      rw [← List.append_assoc, ← hsp]
    · rw [if_neg h2]
      by_cases h3 : rl l n x s = 3
      · rw [if_pos h3]
        refine ⟨⟨[], by rw [List.append_nil]⟩, ?_⟩
        have h2n : 2 ≤ n := by
          unfold rl at h3
          by_cases q1 : smF (fe l 0) = 121 ∧ 2 ≤ n ∧ ¬ vwB (w1 l n) = true ∧ ¬ x = 105
          · exact q1.2.1
          · rw [if_neg q1] at h3
            by_cases q2 : s = true ∧ hsB (smF (fe l 0)) (w1 l n) = true
            · rw [if_pos q2] at h3; exact absurd h3 (by decide)
            · rw [if_neg q2] at h3
              by_cases q3 : ¬ vwB x = true
              · rw [if_pos q3] at h3; exact absurd h3 (by decide)
              · rw [if_neg q3] at h3
                by_cases q4 : smF (fe l 0) = 101 ∧ 2 ≤ n ∧ ¬ w1 l n = 101 ∧ ¬ w1 l n = 111 ∧ ¬ w1 l n = 121
                · exact q4.2.1
                · rw [if_neg q4] at h3
                  split at h3
                  · exact absurd h3 (by decide)
                  · exact absurd h3 (by decide)
        omega
      · rw [if_neg h3]
        by_cases h4 : rl l n x s = 4
        · rw [if_pos h4]
          refine ⟨⟨[l.getLast hne] ++ [smF (fe l 0)], ?_⟩, by rw [List.length_append]; omega⟩
          rw [← List.append_assoc, ← hsp]
        · rw [if_neg h4]
          exact ⟨⟨[l.getLast hne], hsp⟩, hl⟩
theorem wl_eq {a ask : Nat → Int32} {F : List Int32} {d fr : Nat} (ha : ar a F) (hd : F.length = d) : F = wl ask d fr ↔ ∀ i, i < d → a i = ask (fr + i) := by
  constructor
  · intro h i hi
    refine ha i _ ?_
    rw [h, wl_at d fr i hi]
  · intro h
    refine List.ext_getElem? (fun i => ?_)
    rcases Nat.lt_or_ge i d with q | q
    · rw [wl_at d fr i q, ← h i q, List.getElem?_eq_getElem (by omega), ar_at ha (by omega)]
    · rw [List.getElem?_eq_none (by omega), List.getElem?_eq_none (by rw [wl_len]; omega)]
section JD
variable {N ne : Nat} {kd : Nat → Int32} {sc : Nat → Nat} {st : Nat → Int32} {ln : Nat → Nat} {tx ask : Nat → Int32} {fr to : Nat}
theorem jd_len {w s : Nat} (h : jdP ln tx ask fr to w s) (hw : 1 ≤ ln w) (hs : 1 ≤ ln s) : ln s + 1 ≤ to - fr ∧ lets tx ask w (ln w - 1) fr ∧ ln w - 1 < to - fr ∧ lets tx ask s (ln s) (to - ln s) := by
  have hwl : (wd ln tx w).length = ln w := wl_len _ _ _
  obtain ⟨⟨t, h1⟩, h2⟩ := jn_pre (l := wd ln tx w) (n := ln w) (x := tx (16 * s)) (s := isS s (ln s) tx) (by omega) (by omega)
  have hF := h
  unfold jdP sfx at hF
  have hlen := congrArg List.length hF
  rw [List.length_append, wl_len, wl_len] at hlen
  have hdl : (wd ln tx w).dropLast.length = ln w - 1 := by rw [List.length_dropLast, hwl]
  have hjl : ln w - 1 ≤ (jn (wd ln tx w) (ln w) (tx (16 * s)) (isS s (ln s) tx)).length := by
    rw [h1, List.length_append]
    omega
  refine ⟨by omega, fun i hi => ?_, by omega, fun i hi => ?_⟩
  · have e : (wl ask (to - fr) fr)[i]? = some (ask (fr + i)) := wl_at _ _ _ (by omega)
    rw [← hF, h1, List.append_assoc, List.getElem?_append_left (by omega), List.getElem?_dropLast, if_pos (by omega)] at e
    have e2 : (wd ln tx w)[i]? = some (tx (16 * w + (0 + i))) := wl_at (g := fun j => tx (16 * w + j)) _ _ _ (by omega)
    rw [e2, Nat.zero_add] at e
    injection e with e
    exact e.symm
  · have e : (wl ask (to - fr) fr)[(jn (wd ln tx w) (ln w) (tx (16 * s)) (isS s (ln s) tx)).length + i]? = some (ask (fr + ((jn (wd ln tx w) (ln w) (tx (16 * s)) (isS s (ln s) tx)).length + i))) := wl_at _ _ _ (by omega)
    rw [← hF, List.getElem?_append_right (by omega), Nat.add_sub_cancel_left, wl_at _ _ _ hi] at e
    injection e with e
    rw [Nat.zero_add] at e
    rw [show to - ln s + i = fr + ((jn (wd ln tx w) (ln w) (tx (16 * s)) (isS s (ln s) tx)).length + i) by omega, ← e]
theorem mj_put {k : Nat} {x2 x3 x4 lm : Int32} {ml mx : Nat → Int32} (hk : k < 60) (hl : ml k = nI (ln k)) (h16 : ln k ≤ 16) (htx : ∀ i, i < ln k → mx (16 * k + i) = tx (16 * k + i) ∧ ∃ m, m < 128 ∧ tx (16 * k + i) = nI m) : ∀ (d i g : Nat) (l : List Int32) (a : Nat → Int32), i + d = ln k → d < g → ar a l → l.length + d ≤ 100 → ∃ a', jf_Model_isJoined_b8 N (nI k) x2 x3 x4 ask ml mx g (nI i) (nI l.length) lm a = jf_Model_isJoined_b36 N x2 x3 x4 ask ml mx (nI (l ++ wl (fun j => tx (16 * k + j)) d i).length) lm a' ∧ ar a' (l ++ wl (fun j => tx (16 * k + j)) d i) := by
  intro d
  induction d with
  | zero =>
    intro i g l a hi hg ha hle
    obtain ⟨g, rfl⟩ : ∃ y, g = y + 1 := ⟨g - 1, by omega⟩
    refine ⟨a, ?_, by rw [wl, List.append_nil]; exact ha⟩
    rw [jf_Model_isJoined_b8, p_ga (by omega) (by omega), p_cl (by omega), hl, if_pos (p_yle (by omega) (by omega)), wl, List.append_nil]
  | succ d ih =>
    intro i g l a hi hg ha hle
    obtain ⟨g, rfl⟩ : ∃ y, g = y + 1 := ⟨g - 1, by omega⟩
    obtain ⟨t1, m1, m2, m3⟩ := htx i (by omega)
    obtain ⟨a', h1, h2⟩ := ih (i + 1) g (l ++ [tx (16 * k + i)]) (upd a l.length (tx (16 * k + i))) (by omega) (by omega) (ar_push ha) (by rw [List.length_append, List.length_singleton]; omega)
    rw [List.append_assoc, List.singleton_append] at h1 h2
    rw [List.length_append (as := l) (bs := [tx (16 * k + i)]), List.length_singleton] at h1
    refine ⟨a', ?_, h2⟩
    rw [jf_Model_isJoined_b8, p_ga (by omega) (by omega), p_cl (by omega), hl, if_neg (p_nle (by omega) (by omega)), byteOf_ok hk (by omega), Option.bind_some, t1, show (tx (16 * k + i) &&& 255) = tx (16 * k + i) from by rw [m3, nI_low m2], Model_puts_ok (by omega) (by rw [m3]; exact nI_B m2), Option.bind_some]
    dsimp only
    rw [nI_1]
    exact h1
theorem mj_z {n : Int32} {g i : Nat} {lm : Int32} {a : Nat → Int32} {x3 : Int32} : jf_Model_isJoined_b70 x3 ask (g + 1) 0 (nI i) n lm a = some (0, n, lm, a) := by
  rw [jf_Model_isJoined_b70, jgb_0]
  by_cases h : n ≤ nI i
  · rw [if_pos h]
  · rw [if_neg h, if_pos rfl]
theorem mj_cmp {n : Nat} {lm : Int32} {a : Nat → Int32} (hn : fr + n ≤ 60) : ∀ (d i g : Nat), i + d = n → d + 1 < g → (∀ q, q < i → a q = ask (fr + q)) → ∃ z, jf_Model_isJoined_b70 (nI fr) ask g 1 (nI i) (nI n) lm a = some (z, nI n, lm, a) ∧ ((∀ q, q < n → a q = ask (fr + q)) → z = 1) ∧ ((¬ ∀ q, q < n → a q = ask (fr + q)) → z = 0) := by
  intro d
  induction d with
  | zero =>
    intro i g hi hg hq
    obtain ⟨g, rfl⟩ : ∃ y, g = y + 1 := ⟨g - 1, by omega⟩
    refine ⟨1, ?_, fun _ => rfl, fun h => absurd (fun q h' => hq q (by omega)) h⟩
    rw [jf_Model_isJoined_b70, if_pos (p_yle (by omega) (by omega)), jgb_1]
  | succ d ih =>
    intro i g hi hg hq
    obtain ⟨g, rfl⟩ : ∃ y, g = y + 1 + 1 := ⟨g - 2, by omega⟩
    rw [jf_Model_isJoined_b70, if_neg (p_nle (by omega) (by omega)), if_neg (by decide), p_ga (by omega) (by omega), nI_add, p_ga (by omega) (by omega), p_cl (by omega), p_cl (by omega)]
    by_cases he : a i = ask (fr + i)
    · rw [if_pos he, jf_Model_isJoined_b108, nI_1]
      exact ih (i + 1) (g + 1) (by omega) (by omega) (fun j hj => by
        rcases Nat.lt_or_ge j i with w | w
        · exact hq j w
        · rw [show j = i by omega]; exact he)
    · rw [if_neg he, jf_Model_isJoined_b108, nI_1, mj_z]
      exact ⟨0, rfl, fun h => absurd (h i (by omega)) he, fun _ => rfl⟩
theorem wd_7 {k : Nat} (h : ∀ i, i < ln k → ∃ m, m < 128 ∧ tx (16 * k + i) = nI m) : txt7 (wd ln tx k) := txt7_wl _ _ (fun j _ hj => h j (by omega))
theorem mJoined {w s : Nat} {le lm : Int32} {ml mx a : Nat → Int32} (hN : 9000 ≤ N) (hne : ne ≤ 60) (hto : to ≤ 60) (hfr : fr < to) (hw : w < ne) (hs : s < ne) (hlw : 1 ≤ ln w ∧ ln w ≤ 16) (hls : 1 ≤ ln s ∧ ln s ≤ 16) (hA : ∀ k, k < ne → ml k = nI (ln k) ∧ ∀ i, i < ln k → mx (16 * k + i) = tx (16 * k + i) ∧ ∃ m, m < 128 ∧ tx (16 * k + i) = nI m) (hsm : ∀ i, i < ln s → isSm (tx (16 * s + i))) : ∃ z le' lm' a', jf_Model_isJoined N (nI w) (nI s) (nI fr) (nI to) ask ml mx le lm a = some (z, le', lm', a') ∧ (jdP ln tx ask fr to w s → z = 1) ∧ (¬ jdP ln tx ask fr to w s → z = 0) := by
  obtain ⟨w1, w2⟩ := hA w hw
  obtain ⟨s1, s2⟩ := hA s hs
  obtain ⟨a1, h1, h2⟩ := mj_put (N := N) (ask := ask) (x2 := nI s) (x3 := nI fr) (x4 := nI to) (lm := lm) (k := w) (by omega) w1 hlw.2 w2 (ln w) 0 N [] a (by omega) (by omega) ar_nil (by rw [List.length_nil]; omega)
  rw [List.nil_append] at h1 h2
  have hwl : (wd ln tx w).length = ln w := wl_len _ _ _
  obtain ⟨a2, h3, h4⟩ := mJoins_ok (N := N) (k := s) (m := ln s) (n := (wd ln tx w).length) (l := wd ln tx w) (al := ml) (ax := mx) (a := a1) hN hs hne s1 hls.1 hls.2 (fun j hj => by rw [(s2 j hj).1]; exact hsm j hj) h2 (wd_7 (fun i hi => (w2 i hi).2)) (by omega) (Nat.le_refl _) (by omega)
  rw [sfx_cong (tx := tx) hls.1 (fun i hi => (s2 i hi).1)] at h3 h4
  have hj : jdP ln tx ask fr to w s ↔ sfx (wd ln tx w) (wd ln tx w).length s (ln s) tx = wl ask (to - fr) fr := by
    rw [hwl]
    exact Iff.rfl
  have hsl : (sfx (wd ln tx w) (wd ln tx w).length s (ln s) tx).length ≤ 40 := by
    have := jn_len (l := wd ln tx w) (n := (wd ln tx w).length) (x := tx (16 * s)) (s := isS s (ln s) tx) (by omega)
    unfold sfx
    rw [List.length_append, wl_len]
    omega
  have hm : jf_Model_isJoined N (nI w) (nI s) (nI fr) (nI to) ask ml mx le lm a = jf_Model_isJoined_b36 N (nI s) (nI fr) (nI to) ask ml mx (nI (wd ln tx w).length) lm a1 := by
    rw [jf_Model_isJoined]
    exact h1
  rw [hm, jf_Model_isJoined_b36, h3, Option.bind_some]
  dsimp only
  rw [p_sub (by omega)]
  by_cases hl : (sfx (wd ln tx w) (wd ln tx w).length s (ln s) tx).length = to - fr
  · obtain ⟨z, z1, z2, z3⟩ := mj_cmp (ask := ask) (fr := fr) (n := to - fr) (lm := nI (wd ln tx w).length) (a := a2) (by omega) (to - fr) 0 N (by omega) (by omega) (fun q h => absurd h (Nat.not_lt_zero q))
    have heq := wl_eq (ask := ask) (fr := fr) h4 hl
    rw [hl, if_pos rfl, jf_Model_isJoined_b65]
    exact ⟨z, _, _, _, z1, fun h => z2 (heq.mp (hj.mp h)), fun h => z3 (fun q => h (hj.mpr (heq.mpr q)))⟩
  · rw [if_neg (p_ne hl (by omega) (by omega)), jf_Model_isJoined_b65]
    obtain ⟨M, rfl⟩ : ∃ y, N = y + 1 := ⟨N - 1, by omega⟩
    refine ⟨0, _, _, _, mj_z (i := 0), fun h => absurd ?_ hl, fun _ => rfl⟩
    have := congrArg List.length (hj.mp h)
    rw [wl_len] at this
    exact this
theorem at_loop {n : Nat} {a : Nat → Int32} (hn : fr + n ≤ 60) (hn33 : n ≤ 33) : ∀ (d i g : Nat), i + d = n → d < g → (∀ q, q < i → a q = ask (fr + q)) → ∃ z, jf_Page_isAt_b25 (nI fr) 60 33 (nI n) ask a g (nI i) = some z ∧ ((∀ q, q < n → a q = ask (fr + q)) → z = 1) ∧ ((¬ ∀ q, q < n → a q = ask (fr + q)) → z = 0) := by
  intro d
  induction d with
  | zero =>
    intro i g hi hg hq
    obtain ⟨g, rfl⟩ : ∃ y, g = y + 1 := ⟨g - 1, by omega⟩
    refine ⟨1, ?_, fun _ => rfl, fun h => absurd (fun q h' => hq q (by omega)) h⟩
    rw [jf_Page_isAt_b25, if_pos (p_yle (by omega) (by omega))]
  | succ d ih =>
    intro i g hi hg hq
    obtain ⟨g, rfl⟩ : ∃ y, g = y + 1 := ⟨g - 1, by omega⟩
    rw [jf_Page_isAt_b25, if_neg (p_nle (by omega) (by omega)), nI_add, p_ga (by omega) (by omega), p_ga (by omega) (by omega), p_cl (by omega), p_cl (by omega)]
    by_cases he : a i = ask (fr + i)
    · rw [if_pos he.symm, nI_1]
      exact ih (i + 1) g (by omega) (by omega) (fun j hj => by
        rcases Nat.lt_or_ge j i with w | w
        · exact hq j w
        · rw [show j = i by omega]; exact he)
    · rw [if_neg (fun z => he z.symm)]
      exact ⟨0, rfl, fun h => absurd (h i (by omega)) he, fun _ => rfl⟩
theorem isAt_ok {F : List Int32} {a : Nat → Int32} (hN : 100 ≤ N) (hto : to ≤ 60) (hfr : fr < to) (hF : F.length ≤ 33) (ha : ar a F) : ∃ z, jf_Page_isAt N (nI fr) (nI to) 60 33 (nI F.length) ask a = some z ∧ (F = wl ask (to - fr) fr → z = 1) ∧ (¬ F = wl ask (to - fr) fr → z = 0) ∧ (z = 0 ∨ z = 1) := by
  rw [jf_Page_isAt, if_neg (p_n0 (by omega)), if_neg (p_nlt (by omega) (by omega)), p_sub (by omega)]
  by_cases hl : F.length = to - fr
  · obtain ⟨z, z1, z2, z3⟩ := at_loop (ask := ask) (fr := fr) (n := F.length) (a := a) (by omega) hF F.length 0 N (by omega) (by omega) (fun q h => absurd h (Nat.not_lt_zero q))
    have heq := wl_eq (ask := ask) (fr := fr) ha rfl
    rw [if_pos (by rw [hl])]
    rw [← hl]
    refine ⟨z, z1, fun h => z2 (heq.mp h), fun h => z3 (fun q => h (heq.mpr q)), ?_⟩
    by_cases q : ∀ q, q < F.length → a q = ask (fr + q)
    · exact Or.inr (z2 q)
    · exact Or.inl (z3 q)
  · rw [if_neg (p_ne (fun z => hl z.symm) (by omega) (by omega))]
    refine ⟨0, rfl, fun h => absurd ?_ hl, fun _ => rfl, Or.inl rfl⟩
    have := congrArg List.length h
    rw [wl_len] at this
    exact this
theorem sm_lt : ∀ m, m < 123 → 97 ≤ m → ltB (nI m) = true := by decide +kernel
theorem wd_tw {k : Nat} (h : ∀ i, i < ln k → isSm (tx (16 * k + i))) : tw (wd ln tx k) (ln k) := by
  have hwl : (wd ln tx k).length = ln k := wl_len _ _ _
  refine ⟨by omega, fun i hi => ?_, fun q => by omega⟩
  have e : (wd ln tx k)[ln k - 1 - i]? = some (tx (16 * k + (0 + (ln k - 1 - i)))) := wl_at (g := fun j => tx (16 * k + j)) _ _ _ (by omega)
  have e2 : fe (wd ln tx k) i = tx (16 * k + (ln k - 1 - i)) := by
    unfold fe
    rw [hwl, List.getD_eq_getElem?_getD, e, Nat.zero_add]
    rfl
  obtain ⟨m, m1, m2, m3⟩ := isSm_nI (h (ln k - 1 - i) (by omega))
  rw [e2, m3]
  exact sm_lt m (by omega) m1
theorem capF0 {j : Nat} {v : Int32} : capF 0 j v = v := by
  unfold capF
  rw [if_neg (by
    intro h
    rcases h with h | h
    · exact absurd h (by decide)
    · exact absurd h.1 (by decide))]
theorem cJoined {w s : Nat} {c0 c1 c2 L0 V0 : Int32} {al ax a : Nat → Int32} (hN : 9000 ≤ N) (hne : ne ≤ 60) (hto : to ≤ 60) (hfr : fr < to) (hw : w < ne) (hs : s < ne) (hlw : 1 ≤ ln w ∧ ln w ≤ 16) (hls : 1 ≤ ln s ∧ ln s ≤ 16) (hA : ∀ k, k < ne → al k = nI (ln k) ∧ ∀ i, i < ln k → ax (16 * k + i) = tx (16 * k + i)) (hsw : ∀ i, i < ln w → isSm (tx (16 * w + i))) (hsm : ∀ i, i < ln s → isSm (tx (16 * s + i))) : ∃ (z c0' c1' c2' L V : Int32) (a' : Nat → Int32), jf_Join_isJoined N (nI w) (nI s) (nI fr) (nI to) 60 (nI ne) ask al ax c0 c1 c2 L0 V0 a = some (z, c0', c1', c2', L, V, a') ∧ (jdP ln tx ask fr to w s → z = 1) ∧ (¬ jdP ln tx ask fr to w s → z = 0) := by
  obtain ⟨w1, w2⟩ := hA w hw
  obtain ⟨s1, s2⟩ := hA s hs
  have hwl : (wd ln tx w).length = ln w := wl_len _ _ _
  rw [jf_Join_isJoined, Book_lengthOf_in hs hne, s1, Option.bind_some, p_sub (by omega)]
  rcases Nat.lt_or_ge (to - fr) (ln s) with q | q
  · rw [if_pos (p_ylt q (by omega))]
    exact ⟨0, _, _, _, _, _, _, rfl, fun h => by have := (jd_len h hlw.1 hls.1).1; omega, fun _ => rfl⟩
  · obtain ⟨z, z1, z2, z3⟩ := letAt_ok (N := N) (ask := ask) (tx := tx) (al := al) (ax := ax) (k := s) (n := ln s) (p := to - ln s) (by omega) hne hs s1 (Nat.le_refl _) hls.2 (by omega) s2
    rw [if_neg (p_nlt q (by omega)), p_sub (by omega), z1, Option.bind_some]
    by_cases hl : lets tx ask s (ln s) (to - ln s)
    · rw [z2 hl, if_neg (by decide), jf_Page_empty, Option.bind_some]
      dsimp only
      obtain ⟨a1, h1, h2⟩ := writeText_ok (N := N) (k := w) (n := ln w) (nb := 33) (sh := 0) (lk := 0) (al := al) (ax := ax) (a := a) (l := []) (by omega) hw hne w1 hlw.2 (by omega) (fun j hj => by rw [w2 j hj]; exact hsw j hj) ar_nil (by rw [List.length_nil]; omega)
      have e1 : blkL [] 0 ++ wl (fun j => capF 0 j (ax (16 * w + j))) (ln w) 0 = wd ln tx w := by
        unfold blkL wd
        rw [if_neg (by rw [List.length_nil]; omega), List.nil_append]
        exact wl_cong _ _ (fun j _ hj => by rw [capF0, w2 j (by omega)])
      rw [e1] at h1 h2
      rw [show jf_Page_writeText N (nI w) 33 (nI ne) al ax 0 0 0 a = _ from h1, Option.bind_some]
      dsimp only
      obtain ⟨L, V, a2, h3, h4⟩ := joinSuffix_ok (N := N) (k := s) (m := ln s) (n := ln w) (nb := 33) (lk := 0) (L0 := L0) (V0 := V0) (al := al) (ax := ax) (a := a1) (l := wd ln tx w) hN hs hne s1 hls.1 hls.2 (by omega) (fun j hj => by rw [s2 j hj]; exact hsm j hj) h2 (wd_7 (fun i hi => by obtain ⟨m, m1, m2, m3⟩ := isSm_nI (hsw i hi); exact ⟨m, by omega, m3⟩)) (wd_tw hsw) hlw.1 (by omega)
      rw [sfx_cong (tx := tx) hls.1 (fun i hi => s2 i hi)] at h3 h4
      have hsl : (sfx (wd ln tx w) (ln w) s (ln s) tx).length ≤ 33 := by
        have := jn_len (l := wd ln tx w) (n := ln w) (x := tx (16 * s)) (s := isS s (ln s) tx) (by omega)
        unfold sfx
        rw [List.length_append, wl_len]
        omega
      obtain ⟨y, y1, y2, y3, y4⟩ := isAt_ok (N := N) (ask := ask) (fr := fr) (to := to) (a := a2) (by omega) hto hfr hsl h4
      rw [h3, Option.bind_some]
      dsimp only
      rw [y1, Option.bind_some]
      have hg : ∀ {α : Type} (k : Option α), jgb y k = k := fun k => if_pos y4
      rw [hg]
      exact ⟨y, _, _, _, _, _, _, rfl, y2, y3⟩
    · rw [z3 hl, if_pos rfl]
      exact ⟨0, _, _, _, _, _, _, rfl, fun h => absurd (jd_len h hlw.1 hls.1).2.2.2 hl, fun _ => rfl⟩
theorem mayBegin_ok {w : Nat} {ak al ax : Nat → Int32} (hN : 100 ≤ N) (hne : ne ≤ 60) (hto : to ≤ 60) (hfr : fr < to) (hw : w < ne) (hk : ak w = kd w) (hl : al w = nI (ln w)) (h16 : ln w ≤ 16) (h1 : kd w = 0 → 1 ≤ ln w) (hX : ∀ i, i < ln w → ax (16 * w + i) = tx (16 * w + i)) : ∃ z, jf_Join_mayBegin N (nI w) (nI fr) (nI to) 60 (nI ne) ask ak al ax = some z ∧ (kd w = 0 ∧ ln w - 1 < to - fr ∧ lets tx ask w (ln w - 1) fr → z = 1) ∧ (¬ (kd w = 0 ∧ ln w - 1 < to - fr ∧ lets tx ask w (ln w - 1) fr) → z = 0) := by
  rw [jf_Join_mayBegin, Book_lengthOf_in hw hne, Option.bind_some, Book_kindOf_in hw hne, Option.bind_some, hk, hl]
  by_cases e : kd w = 0
  · have := h1 e
    rw [if_pos e, p_sub (by omega), p_s1 (by omega)]
    rcases Nat.lt_or_ge (ln w - 1) (to - fr) with q | q
    · obtain ⟨z, z1, z2, z3⟩ := letAt_ok (N := N) (ask := ask) (tx := tx) (al := al) (ax := ax) (k := w) (n := ln w - 1) (p := fr) hN hne hw hl (by omega) h16 (by omega) hX
      rw [if_neg (p_nle q (by omega)), z1, Option.bind_some]
      by_cases hlt : lets tx ask w (ln w - 1) fr
      · rw [z2 hlt, if_neg (by decide)]
        exact ⟨1, rfl, fun _ => rfl, fun h => absurd ⟨e, q, hlt⟩ h⟩
      · rw [z3 hlt, if_pos rfl]
        exact ⟨0, rfl, fun h => absurd h.2.2 hlt, fun _ => rfl⟩
    · rw [if_pos (p_yle q (by omega))]
      exact ⟨0, rfl, fun h => by omega, fun _ => rfl⟩
  · rw [if_neg e]
    exact ⟨0, rfl, fun h => absurd h.1 e, fun _ => rfl⟩
end JD
