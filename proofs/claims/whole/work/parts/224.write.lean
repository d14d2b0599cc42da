/-! one translation is written -/
noncomputable def twn (l : List Int32) : Nat := Classical.choose (tw_ex l)
theorem twn_ok (l : List Int32) : tw l (twn l) := Classical.choose_spec (tw_ex l)
/-- a word's letters under this shift -/
def wW (ln : Nat → Nat) (tx : Nat → Int32) (k : Nat) (sh : Int32) : List Int32 := wl (fun j => capF sh j (tx (16 * k + j))) (ln k) 0
noncomputable def wrE (kd : Nat → Int32) (ln : Nat → Nat) (tx : Nat → Int32) (k : Nat) (bg : Bool) (l : List Int32) (sh lk : Int32) : List Int32 × Int32 × Int32 :=
  if kd k = 0 then (blkL l lk ++ wW ln tx k sh, 0, 0)
  else if kd k = 1 then (blkL l lk ++ wW ln tx k sh, 0, 1)
  else if kd k = 2 then (if twn l = 0 then (blkL l lk ++ wW ln tx k sh, 0, 0) else (sfx l (twn l) k (ln k) tx, sh, 0))
  else if kd k = 3 then (l ++ [tx (16 * k)], 1, 0)
  else if kd k = 4 then (l ++ [tx (16 * k)], sh, 0)
  else if kd k = 5 then ((if bg = true then l else blkL l lk) ++ wW ln tx k sh, 0, 0)
  else if kd k = 6 then (l, 1, lk)
  else if kd k = 7 then (l, sh, 1)
  else (l, 2, lk)
theorem sfx_cong {l : List Int32} {n k m : Nat} {ax tx : Nat → Int32} (hm : 1 ≤ m) (h : ∀ i, i < m → ax (16 * k + i) = tx (16 * k + i)) : sfx l n k m ax = sfx l n k m tx := by
  have h0 := h 0 (by omega)
  rw [Nat.add_zero] at h0
  unfold sfx isS
  rw [h0, wl_cong m 0 (fun j _ q => h j (by omega))]
theorem tw_fun {l : List Int32} {n m : Nat} (h1 : tw l n) (h2 : tw l m) : n = m := by
  rcases Nat.lt_trichotomy n m with q | q | q
  · have := h2.1
    exact absurd (h2.2.1 n q) (h1.2.2 (by omega))
  · exact q
  · have := h1.1
    exact absurd (h1.2.1 m q) (h2.2.2 (by omega))
theorem endsByLetter_ok {nb : Nat} {l : List Int32} {a : Nat → Int32} (ha : ar a l) (h7 : txt7 l) (hl : l.length ≤ nb) (hb : nb ≤ 10000) : jf_Page_endsByLetter nb (nI l.length) a = some (if twn l = 0 then 0 else 1) := by
  have ht := twn_ok l
  rw [jf_Page_endsByLetter]
  by_cases h0 : 0 < l.length
  · obtain ⟨m, hm, e⟩ := fe_7 h7 h0
    obtain ⟨c1, -, -, -, -, -, -⟩ := chr_all m hm
    have hf := fe_ar (i := 0) ha h0
    rw [Nat.sub_zero] at hf
    rw [if_neg (show ¬ nI l.length ≤ 0 from p_nle (b := 0) h0 (by omega)), p_s1 (by omega), p_ga (by omega) (by omega), p_cl (by omega), hf, e, c1, Option.bind_some, ← e]
    by_cases hz : twn l = 0
    · rw [if_pos hz]
      have := ht.2.2 (by omega)
      rw [hz] at this
      rw [if_neg this, if_pos rfl]
    · rw [if_neg hz]
      have := ht.2.1 0 (by omega)
      rw [if_pos this, if_neg (by decide)]
  · have := ht.1
    rw [if_pos (show nI l.length ≤ 0 from p_yle (b := 0) (by omega) (by omega)), if_pos (by omega)]
theorem wrE5 {kd : Nat → Int32} {ln : Nat → Nat} {tx : Nat → Int32} {k : Nat} {bg : Bool} {l : List Int32} {sh lk : Int32} (h : kd k = 5) : wrE kd ln tx k bg l sh lk = ((if bg = true then l else blkL l lk) ++ wW ln tx k sh, 0, 0) := by
  unfold wrE
  rw [h, if_neg (by decide), if_neg (by decide), if_neg (by decide), if_neg (by decide), if_neg (by decide), if_pos rfl]
section WR
variable {N k ne : Nat} {kd : Nat → Int32} {sc : Nat → Nat} {st : Nat → Int32} {ln : Nat → Nat} {tx : Nat → Int32}
theorem bk_len (hV : bkV ne kd sc st ln tx) (hk : k < ne) : ln k ≤ 16 := by
  obtain ⟨⟨c, c1, c2, c3⟩, -⟩ := hV.2.1 k hk
  unfold lnB at c3
  split at c3
  · omega
  · split at c3 <;> omega
theorem bk_sm (hV : bkV ne kd sc st ln tx) (hk : k < ne) (h3 : ¬ kd k = 3) (h4 : ¬ kd k = 4) {i : Nat} (hi : i < ln k) : isSm (tx (16 * k + i)) := by
  obtain ⟨-, -, -, -, h⟩ := hV.2.1 k hk
  have := h i hi
  unfold bB at this
  rw [if_neg (fun q => q.elim h3 h4)] at this
  simp only [Bool.and_eq_true, Bool.not_eq_true', decide_eq_false_iff_not] at this
  exact this
theorem bk_mark (hV : bkV ne kd sc st ln tx) (hk : k < ne) (h34 : kd k = 3 ∨ kd k = 4) {i : Nat} (hi : i < ln k) : ∃ m, m < 128 ∧ tx (16 * k + i) = nI m := by
  obtain ⟨-, -, -, -, h⟩ := hV.2.1 k hk
  have := h i hi
  unfold bB at this
  rw [if_pos h34] at this
  simp only [Bool.or_eq_true, decide_eq_true_eq] at this
  rcases this with ((((h | h) | h) | h) | h) | h
  · exact ⟨46, by omega, h⟩
  · exact ⟨44, by omega, h⟩
  · exact ⟨59, by omega, h⟩
  · exact ⟨58, by omega, h⟩
  · exact ⟨63, by omega, h⟩
  · exact ⟨33, by omega, h⟩
theorem bk_kind (hV : bkV ne kd sc st ln tx) (hk : k < ne) : (kd k = 0 ∧ 1 ≤ ln k) ∨ (kd k = 1 ∧ 1 ≤ ln k) ∨ (kd k = 2 ∧ 1 ≤ ln k) ∨ (kd k = 3 ∧ ln k = 1) ∨ (kd k = 4 ∧ ln k = 1) ∨ (kd k = 5 ∧ 1 ≤ ln k) ∨ (kd k = 6 ∧ ln k = 0) ∨ (kd k = 7 ∧ ln k = 0) ∨ (kd k = 8 ∧ ln k = 0) := by
  obtain ⟨⟨c, c1, c2, c3⟩, -⟩ := hV.2.1 k hk
  unfold lnB at c3
  have : c = 0 ∨ c = 1 ∨ c = 2 ∨ c = 3 ∨ c = 4 ∨ c = 5 ∨ c = 6 ∨ c = 7 ∨ c = 8 := by omega
  rcases this with rfl | rfl | rfl | rfl | rfl | rfl | rfl | rfl | rfl
  · exact Or.inl ⟨c2, by simp at c3; omega⟩
  · exact Or.inr (Or.inl ⟨c2, by simp at c3; omega⟩)
  · exact Or.inr (Or.inr (Or.inl ⟨c2, by simp at c3; omega⟩))
  · exact Or.inr (Or.inr (Or.inr (Or.inl ⟨c2, by simp at c3; omega⟩)))
  · exact Or.inr (Or.inr (Or.inr (Or.inr (Or.inl ⟨c2, by simp at c3; omega⟩))))
  · exact Or.inr (Or.inr (Or.inr (Or.inr (Or.inr (Or.inl ⟨c2, by simp at c3; omega⟩)))))
  · exact Or.inr (Or.inr (Or.inr (Or.inr (Or.inr (Or.inr (Or.inl ⟨c2, by simp at c3; omega⟩))))))
  · exact Or.inr (Or.inr (Or.inr (Or.inr (Or.inr (Or.inr (Or.inr (Or.inl ⟨c2, by simp at c3; omega⟩)))))))
  · exact Or.inr (Or.inr (Or.inr (Or.inr (Or.inr (Or.inr (Or.inr (Or.inr ⟨c2, by simp at c3; omega⟩)))))))
theorem nI_B {m : Nat} (h : m < 128) : (nI m).toInt8.toInt32 = nI m := by
  obtain ⟨-, -, -, -, -, c6, -⟩ := chr_all m h
  exact c6
theorem nI_low {m : Nat} (h : m < 128) : (nI m &&& 255) = nI m := by
  obtain ⟨-, -, -, -, c5, -, -⟩ := chr_all m h
  exact c5
theorem writeEntry_ok {ak al ax : Nat → Int32} {bg : Bool} {nb : Nat} {l : List Int32} {sh lk L0 V0 : Int32} {a : Nat → Int32} (hN : 9000 ≤ N) (hV : bkV ne kd sc st ln tx) (hk : k < ne) (hA : ak k = kd k ∧ al k = nI (ln k) ∧ ∀ i, i < ln k → ax (16 * k + i) = tx (16 * k + i)) (hb : nb ≤ 8000) (ha : ar a l) (h7 : txt7 l) (hl : l.length + 23 ≤ nb) : ∃ L V a', jf_Page_writeEntry N (nI k) (if bg = true then 1 else 0) nb (nI ne) ak al ax (nI l.length) sh lk L0 V0 a = some (nI (wrE kd ln tx k bg l sh lk).1.length, (wrE kd ln tx k bg l sh lk).2.1, (wrE kd ln tx k bg l sh lk).2.2, L, V, a') ∧ ar a' (wrE kd ln tx k bg l sh lk).1 := by
  obtain ⟨hA1, hA2, hA3⟩ := hA
  have hne := hV.1
  have h16 := bk_len hV hk
  have hW : wl (fun j => capF sh j (ax (16 * k + j))) (ln k) 0 = wW ln tx k sh := by
    unfold wW
    exact wl_cong (ln k) 0 (fun j _ q => by rw [hA3 j (by omega)])
  have htext : (¬ kd k = 3) → (¬ kd k = 4) → ∀ lk' : Int32, ∃ a', jf_Page_writeText N (nI k) nb (nI ne) al ax (nI l.length) sh lk' a = some (nI (blkL l lk' ++ wW ln tx k sh).length, 0, 0, a') ∧ ar a' (blkL l lk' ++ wW ln tx k sh) := by
    intro h3 h4 lk'
    rw [← hW]
    exact writeText_ok (by omega) hk hne hA2 h16 (by omega) (fun j hj => by rw [hA3 j hj]; exact bk_sm hV hk h3 h4 hj) ha (by omega)
  have hmark : (kd k = 3 ∨ kd k = 4) → ln k = 1 → ∃ a', jf_Page_writeMark (nI k) nb (nI ne) al ax (nI l.length) lk a = some (nI (l ++ [tx (16 * k)]).length, 0, a') ∧ ar a' (l ++ [tx (16 * k)]) := by
    intro h34 h1
    obtain ⟨m, hm, e⟩ := bk_mark (i := 0) hV hk h34 (by omega)
    have hlet : jf_Book_letterAt (nI k) 0 (nI ne) al ax = some (ax (16 * k)) := Book_letterAt_in (i := 0) hk hne hA2 (by omega) h16
    have h0 := hA3 0 (by omega)
    rw [Nat.add_zero] at h0 e
    refine ⟨upd a l.length (tx (16 * k)), ?_, ar_push ha⟩
    rw [jf_Page_writeMark, hlet, Option.bind_some, h0, Page_put_ok (by omega) (by omega) (by rw [e]; exact nI_B hm), Option.bind_some, List.length_append, List.length_singleton]
  rw [jf_Page_writeEntry, Book_kindOf_in hk hne, Option.bind_some, hA1]
  rcases bk_kind hV hk with ⟨h, h1⟩ | ⟨h, h1⟩ | ⟨h, h1⟩ | ⟨h, h1⟩ | ⟨h, h1⟩ | ⟨h, h1⟩ | ⟨h, h1⟩ | ⟨h, h1⟩ | ⟨h, h1⟩
  · unfold wrE
    obtain ⟨a', e1, e2⟩ := htext (by rw [h]; decide) (by rw [h]; decide) lk
    rw [h, if_pos rfl, if_pos rfl, e1, Option.bind_some]
    exact ⟨_, _, a', rfl, e2⟩
  · unfold wrE
    obtain ⟨a', e1, e2⟩ := htext (by rw [h]; decide) (by rw [h]; decide) lk
    rw [h, if_neg (by decide), if_pos rfl, if_neg (by decide), if_pos rfl, e1, Option.bind_some]
    exact ⟨_, _, a', rfl, e2⟩
  · unfold wrE
    rw [h, if_neg (by decide), if_neg (by decide), if_pos rfl, if_neg (by decide), if_neg (by decide), if_pos rfl, endsByLetter_ok ha h7 (by omega) (by omega), Option.bind_some]
    by_cases hz : twn l = 0
    · obtain ⟨a', e1, e2⟩ := htext (by rw [h]; decide) (by rw [h]; decide) lk
      rw [if_pos hz, if_pos hz, if_pos rfl, e1, Option.bind_some]
      exact ⟨_, _, a', rfl, e2⟩
    · obtain ⟨L, V, a', e1, e2⟩ := joinSuffix_ok (ax := ax) (lk := lk) (L0 := L0) (V0 := V0) hN hk hne hA2 h1 h16 hb (fun j hj => by rw [hA3 j hj]; exact bk_sm hV hk (by rw [h]; decide) (by rw [h]; decide) hj) ha h7 (twn_ok l) (by omega) (by omega)
      rw [sfx_cong h1 hA3] at e1 e2
      rw [if_neg hz, if_neg hz, if_neg (by decide), e1, Option.bind_some]
      exact ⟨_, _, a', rfl, e2⟩
  · unfold wrE
    obtain ⟨a', e1, e2⟩ := hmark (Or.inl h) h1
    rw [h, if_neg (by decide), if_neg (by decide), if_neg (by decide), if_pos rfl, if_neg (by decide), if_neg (by decide), if_neg (by decide), if_pos rfl, e1, Option.bind_some]
    exact ⟨_, _, a', rfl, e2⟩
  · unfold wrE
    obtain ⟨a', e1, e2⟩ := hmark (Or.inr h) h1
    rw [h, if_neg (by decide), if_neg (by decide), if_neg (by decide), if_neg (by decide), if_pos rfl, if_neg (by decide), if_neg (by decide), if_neg (by decide), if_neg (by decide), if_pos rfl, e1, Option.bind_some]
    exact ⟨_, _, a', rfl, e2⟩
  · rw [wrE5 h]
    rw [h, if_neg (by decide), if_neg (by decide), if_neg (by decide), if_neg (by decide), if_neg (by decide), if_pos rfl]
    cases bg with
    | true =>
      obtain ⟨a', e1, e2⟩ := htext (by rw [h]; decide) (by rw [h]; decide) 1
      have hb1 : blkL l 1 = l := if_neg (fun q => absurd q.2 (by decide))
      rw [hb1] at e1 e2
      rw [if_pos rfl, if_pos rfl, if_neg (by decide), jf_Page_writeEntry_b117, e1, Option.bind_some]
      exact ⟨_, _, a', rfl, e2⟩
    | false =>
      obtain ⟨a', e1, e2⟩ := htext (by rw [h]; decide) (by rw [h]; decide) lk
      rw [if_pos (by decide), if_neg (by decide), jf_Page_writeEntry_b117, e1, Option.bind_some]
      exact ⟨_, _, a', rfl, e2⟩
  · unfold wrE
    rw [h, if_neg (by decide), if_neg (by decide), if_neg (by decide), if_neg (by decide), if_neg (by decide), if_neg (by decide), if_pos rfl, if_neg (by decide), if_neg (by decide), if_neg (by decide), if_neg (by decide), if_neg (by decide), if_neg (by decide), if_pos rfl]
    exact ⟨_, _, a, rfl, ha⟩
  · unfold wrE
    rw [h, if_neg (by decide), if_neg (by decide), if_neg (by decide), if_neg (by decide), if_neg (by decide), if_neg (by decide), if_neg (by decide), if_pos rfl, if_neg (by decide), if_neg (by decide), if_neg (by decide), if_neg (by decide), if_neg (by decide), if_neg (by decide), if_neg (by decide), if_pos rfl]
    exact ⟨_, _, a, rfl, ha⟩
  · unfold wrE
    rw [h, if_neg (by decide), if_neg (by decide), if_neg (by decide), if_neg (by decide), if_neg (by decide), if_neg (by decide), if_neg (by decide), if_neg (by decide), if_pos rfl, if_neg (by decide), if_neg (by decide), if_neg (by decide), if_neg (by decide), if_neg (by decide), if_neg (by decide), if_neg (by decide), if_neg (by decide)]
    exact ⟨_, _, a, rfl, ha⟩
/-- what the reference looks up of the translation ahead -/
def bgR (ne : Nat) (kd ea : Nat → Int32) (t : Nat) (bg : Bool) : Prop := (t = 0 ∧ bg = false) ∨ (1 ≤ t ∧ t ≤ 300 ∧ ((ea (t - 1) = -1 ∧ bg = false) ∨ ∃ j, j < ne ∧ ea (t - 1) = nI j ∧ bg = decide (kd j = 5)))
theorem mOne_ok {ak al ax ea : Nat → Int32} {bg : Bool} {t : Nat} {l : List Int32} {sh lk lm : Int32} {a : Nat → Int32} (hN : 9000 ≤ N) (hV : bkV ne kd sc st ln tx) (hk : k < ne) (hA : ∀ k, k < ne → ak k = kd k ∧ al k = nI (ln k) ∧ ∀ i, i < ln k → ax (16 * k + i) = tx (16 * k + i)) (hbg : bgR ne kd ea t bg) (ha : ar a l) (h7 : txt7 l) (hl : l.length + 23 ≤ 8000) : ∃ L a', jf_Model_one N (nI t) (nI k) ea ak al ax (nI l.length) sh lk lm a = some (nI (wrE kd ln tx k bg l sh lk).1.length, (wrE kd ln tx k bg l sh lk).2.1, (wrE kd ln tx k bg l sh lk).2.2, L, a') ∧ ar a' (wrE kd ln tx k bg l sh lk).1 := by
  obtain ⟨hA1, hA2, hA3⟩ := hA k hk
  have hne := hV.1
  have h16 := bk_len hV hk
  have hW : wl (fun j => capF sh j (ax (16 * k + j))) (ln k) 0 = wW ln tx k sh := by
    unfold wW
    exact wl_cong (ln k) 0 (fun j _ q => by rw [hA3 j (by omega)])
  have htext : (¬ kd k = 3) → (¬ kd k = 4) → ∃ a', jf_Model_word N (nI k) 1 al ax (nI l.length) sh lk a = some (nI (blkL l lk ++ wW ln tx k sh).length, 0, 0, a') ∧ ar a' (blkL l lk ++ wW ln tx k sh) := by
    intro h3 h4
    rw [← hW]
    exact (mWord_ok (z := 1) (by omega) hk hne hA2 h16 (fun j hj => by rw [hA3 j hj]; exact bk_sm hV hk h3 h4 hj) ha (by omega)).1 (by decide)
  have htext0 : (¬ kd k = 3) → (¬ kd k = 4) → ∃ a', jf_Model_word N (nI k) 0 al ax (nI l.length) sh lk a = some (nI (l ++ wW ln tx k sh).length, 0, 0, a') ∧ ar a' (l ++ wW ln tx k sh) := by
    intro h3 h4
    rw [← hW]
    exact (mWord_ok (z := 0) (by omega) hk hne hA2 h16 (fun j hj => by rw [hA3 j hj]; exact bk_sm hV hk h3 h4 hj) ha (by omega)).2 rfl
  have hmark : (kd k = 3 ∨ kd k = 4) → ln k = 1 → jf_Model_byteOf (nI k) 0 ax = some (tx (16 * k)) ∧ jf_Model_puts (tx (16 * k)) (nI l.length) a = some (nI (l ++ [tx (16 * k)]).length, upd a l.length (tx (16 * k))) := by
    intro h34 h1
    obtain ⟨m, hm, e⟩ := bk_mark (i := 0) hV hk h34 (by omega)
    have h0 := hA3 0 (by omega)
    rw [Nat.add_zero] at h0 e
    have h00 : (16 * nI k + 0 : Int32) = nI (16 * k) := by
      rw [show (16 : Int32) = nI 16 from rfl, show (0 : Int32) = nI 0 from rfl, pk_mul, nI_add, Nat.add_zero]
    refine ⟨?_, ?_⟩
    · rw [jf_Model_byteOf, h00, p_ga (by omega) (by omega), p_cl (by omega), h0, e, nI_low hm]
    · rw [Model_puts_ok (by omega) (by rw [e]; exact nI_B hm), List.length_append, List.length_singleton]
  rw [jf_Model_one, p_ga (by omega) (by omega), p_cl (by omega), hA1]
  rcases bk_kind hV hk with ⟨h, h1⟩ | ⟨h, h1⟩ | ⟨h, h1⟩ | ⟨h, h1⟩ | ⟨h, h1⟩ | ⟨h, h1⟩ | ⟨h, h1⟩ | ⟨h, h1⟩ | ⟨h, h1⟩
  · unfold wrE
    obtain ⟨a', e1, e2⟩ := htext (by rw [h]; decide) (by rw [h]; decide)
    rw [h, if_pos rfl, if_pos rfl, e1, Option.bind_some]
    exact ⟨_, a', rfl, e2⟩
  · unfold wrE
    obtain ⟨a', e1, e2⟩ := htext (by rw [h]; decide) (by rw [h]; decide)
    rw [h, if_neg (by decide), if_pos rfl, if_neg (by decide), if_pos rfl, e1, Option.bind_some]
    exact ⟨_, a', rfl, e2⟩
  · unfold wrE
    rw [h, if_neg (by decide), if_neg (by decide), if_pos rfl, if_neg (by decide), if_neg (by decide), if_pos rfl, jf_Model_suffix]
    have hloop := mLast_loop (N := N) (k := k) (al := al) (ax := ax) (sh := sh) (lk := lk) ha h7 (by omega) (twn_ok l) (twn l) 0 N (by omega) (by have := (twn_ok l).1; omega)
    rw [show jf_Model_suffix_b5 N (nI k) al ax N (nI l.length) sh lk 0 a = jf_Model_suffix_b55 N (nI k) al ax (nI l.length) sh lk (nI (twn l)) a from hloop, jf_Model_suffix_b55]
    have htl := (twn_ok l).1
    by_cases hz : twn l = 0
    · obtain ⟨a', e1, e2⟩ := htext (by rw [h]; decide) (by rw [h]; decide)
      rw [if_pos hz, if_pos (show nI (twn l) = 0 from by rw [hz]; rfl), e1, Option.bind_some, Option.bind_some]
      exact ⟨_, a', rfl, e2⟩
    · obtain ⟨a', e1, e2⟩ := mJoins_ok (N := N) (ax := ax) hN hk hne hA2 h1 h16 (fun j hj => by rw [hA3 j hj]; exact bk_sm hV hk (by rw [h]; decide) (by rw [h]; decide) hj) ha h7 (by omega : 1 ≤ twn l) htl (by omega)
      rw [sfx_cong h1 hA3] at e1 e2
      rw [if_neg hz, if_neg (show ¬ nI (twn l) = 0 from p_ne (b := 0) hz (by omega) (by omega)), e1, Option.bind_some, Option.bind_some]
      exact ⟨_, a', rfl, e2⟩
  · unfold wrE
    obtain ⟨e1, e2⟩ := hmark (Or.inl h) h1
    rw [h, if_neg (by decide), if_neg (by decide), if_neg (by decide), if_pos rfl, if_neg (by decide), if_neg (by decide), if_neg (by decide), if_pos rfl, e1, Option.bind_some, e2, Option.bind_some]
    exact ⟨_, _, rfl, ar_push ha⟩
  · unfold wrE
    obtain ⟨e1, e2⟩ := hmark (Or.inr h) h1
    rw [h, if_neg (by decide), if_neg (by decide), if_neg (by decide), if_neg (by decide), if_pos rfl, if_neg (by decide), if_neg (by decide), if_neg (by decide), if_neg (by decide), if_pos rfl, e1, Option.bind_some, e2, Option.bind_some]
    exact ⟨_, _, rfl, ar_push ha⟩
  · rw [wrE5 h]
    rw [h, if_neg (by decide), if_neg (by decide), if_neg (by decide), if_neg (by decide), if_neg (by decide), if_pos rfl]
    have hno : ∃ L a', jf_Model_one_b159 N al ax (nI k) (nI l.length) sh lk lm a = some (nI (blkL l lk ++ wW ln tx k sh).length, 0, 0, L, a') ∧ ar a' (blkL l lk ++ wW ln tx k sh) := by
      obtain ⟨a', e1, e2⟩ := htext (by rw [h]; decide) (by rw [h]; decide)
      rw [jf_Model_one_b159, jf_Model_one_b164, e1, Option.bind_some]
      exact ⟨_, a', rfl, e2⟩
    rcases hbg with ⟨q1, q2⟩ | ⟨q1, q2, q3⟩
    · rw [if_pos (show nI t = 0 from by rw [q1]; rfl), q2, if_neg (by decide)]
      exact hno
    · rw [if_neg (show ¬ nI t = 0 from p_ne (b := 0) (by omega) (by omega) (by omega)), p_s1 (by omega), p_ga (by omega) (by omega), p_cl (by omega)]
      rcases q3 with ⟨r1, r2⟩ | ⟨j, r1, r2, r3⟩
      · rw [if_pos r1, r2, if_neg (by decide)]
        exact hno
      · rw [r2, if_neg (show ¬ nI j = -1 from fun q => cast (p_m1 (n := j) (by omega)) q), p_ga (by omega) (by omega), p_ga (by omega) (by omega), p_cl (by omega), (hA j r1).1]
        by_cases h5 : kd j = 5
        · obtain ⟨a', e1, e2⟩ := htext0 (by rw [h]; decide) (by rw [h]; decide)
          rw [if_pos h5, r3, if_pos (decide_eq_true h5), jf_Model_one_b164, e1, Option.bind_some]
          exact ⟨_, a', rfl, e2⟩
        · rw [if_neg h5, r3, if_neg (fun q => h5 (of_decide_eq_true q))]
          exact hno
  · unfold wrE
    rw [h, if_neg (by decide), if_neg (by decide), if_neg (by decide), if_neg (by decide), if_neg (by decide), if_neg (by decide), if_pos rfl, if_neg (by decide), if_neg (by decide), if_neg (by decide), if_neg (by decide), if_neg (by decide), if_neg (by decide), if_pos rfl]
    exact ⟨_, a, rfl, ha⟩
  · unfold wrE
    rw [h, if_neg (by decide), if_neg (by decide), if_neg (by decide), if_neg (by decide), if_neg (by decide), if_neg (by decide), if_neg (by decide), if_pos rfl, if_neg (by decide), if_neg (by decide), if_neg (by decide), if_neg (by decide), if_neg (by decide), if_neg (by decide), if_neg (by decide), if_pos rfl]
    exact ⟨_, a, rfl, ha⟩
  · unfold wrE
    rw [h, if_neg (by decide), if_neg (by decide), if_neg (by decide), if_neg (by decide), if_neg (by decide), if_neg (by decide), if_neg (by decide), if_neg (by decide), if_neg (by decide), if_neg (by decide), if_neg (by decide), if_neg (by decide), if_neg (by decide), if_neg (by decide), if_neg (by decide), if_neg (by decide)]
    exact ⟨_, a, rfl, ha⟩
end WR
