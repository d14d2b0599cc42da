/-! what stands in the book -/
theorem y_nn (y : Int32) (h : ¬ y < 0) : ∃ j : Nat, j < 2147483648 ∧ y = nI j := by
  have h1 : y ≤ 2147483647 := by
    rw [Int32.le_iff_toInt_le]
    have := Int32.toInt_lt y
    have e : (2147483647 : Int32).toInt = 2147483647 := by decide
    omega
  obtain ⟨j, hj, e⟩ := nI_of2 (x := y) (M := 2147483647) (n := 2147483647) (by decide) h h1
  exact ⟨j, by omega, e⟩
theorem trI_of {ne n : Nat} {kd : Nat → Int32} {sc : Nat → Nat} {st : Nat → Int32} {ln : Nat → Nat} {tx row : Nat → Int32} {pz ps pl rs sz rw : Int32} {pb ea fa beh la ow : Nat → Int32} (h : trS ne kd sc st ln tx row n sz rw pz ps pl rs beh la ow pb ea fa) : trI ne kd sc st ln tx row n n sz rw 1 pz ps pl rs beh la ow pb ea fa := by
  obtain ⟨t1, t2, t3, t4, t5, t6, t7', t8, t9, t10, t11⟩ := id h
  exact ⟨t6, Nat.le_refl n, t11, Or.inr ⟨rfl, h⟩⟩
theorem bk_7 {k ne : Nat} {kd : Nat → Int32} {sc : Nat → Nat} {st : Nat → Int32} {ln : Nat → Nat} {tx : Nat → Int32} (hV : bkV ne kd sc st ln tx) (hk : k < ne) {i : Nat} (hi : i < ln k) : ∃ m, m < 128 ∧ tx (16 * k + i) = nI m := by
  by_cases h3 : kd k = 3
  · exact bk_mark hV hk (Or.inl h3) hi
  · by_cases h4 : kd k = 4
    · exact bk_mark hV hk (Or.inr h4) hi
    · exact sm_7 (bk_sm hV hk h3 h4 hi)
theorem op_book {N ne n q : Nat} {kd : Nat → Int32} {sc : Nat → Nat} {st : Nat → Int32} {ln : Nat → Nat} {tx row : Nat → Int32} {pz ps pl L0 V0 rs sz rw se cz : Int32} {ak al ax asc ast pb ea fa beh ch la ow : Nat → Int32} {tr le sh lk cm lm : Int32} {mk rec mc ms ml mx mch mea mfa mla mlb ma : Nat → Int32} {x y : Int32} (hN : 9000 ≤ N) (hV : bkV ne kd sc st ln tx) (hn : n ≤ 300) (hst : ∀ i, i < n → isSt (row i)) (hrec : ∀ i, i < n → rec i = row i) (hC : bkC ne kd sc st ln tx (nI ne) ak asc ast al ax) (hM : bkC ne kd sc st ln tx (nI ne) mk mc ms ml mx) (hI : trI ne kd sc st ln tx row n q sz rw se pz ps pl rs beh la ow pb ea fa) : ∃ (r pz' ps' pl' L V rs' sz' rw' se' cz' : Int32) (pb' ea' fa' beh' ch' la' ow' : Nat → Int32) (o : MO) (q' : Nat), jf_Room_book N x y (nI ne) (nI n) ak al ax asc ast row pz ps pl L0 V0 rs sz rw se cz pb ea fa beh ch la ow = some (r, pz', ps', pl', L, V, rs', sz', rw', se', cz', pb', ea', fa', beh', ch', la', ow') ∧ jf_Model_book N x y (nI ne) (nI n) mk rec mc ms ml mx tr le sh lk cm lm mch mea mfa mla mlb ma = some (r, o) ∧ trI ne kd sc st ln tx row n q' sz' rw' se' pz' ps' pl' rs' beh' la' ow' pb' ea' fa' := by
  have hne := hV.1
  rw [jf_Room_book, jf_Model_book]
  rcases p_ix x (n := ne) (by omega) with h | ⟨h, h'⟩ | ⟨k, hk, rfl⟩
  · rw [Book_has_neg h, Option.bind_some, if_pos rfl, if_pos h]
    exact ⟨_, _, _, _, _, _, _, _, _, _, _, _, _, _, _, _, _, _, _, _, rfl, rfl, hI⟩
  · rw [Book_has_big h h', Option.bind_some, if_pos rfl, if_neg h', if_neg (Int32.not_lt.mpr h)]
    exact ⟨_, _, _, _, _, _, _, _, _, _, _, _, _, _, _, _, _, _, _, _, rfl, rfl, hI⟩
  · obtain ⟨c1, c2, c3, c4, c5⟩ := hC.2 k hk
    obtain ⟨d1, d2, d3, d4, d5⟩ := hM.2 k hk
    obtain ⟨-, v2, v3, -, -⟩ := hV.2.1 k hk
    have h16 := bk_len hV hk
    rw [Book_has_in hk hne, Option.bind_some, if_neg (by decide), if_neg (p_n0 (by omega)), if_pos (p_ylt hk (by omega))]
    by_cases h0 : y = 0
    · subst h0
      rw [if_pos (by decide), if_pos (by decide), if_pos rfl, if_pos rfl, Book_kindOf_in hk hne, Option.bind_some, c1, p_ga (by omega) (by omega), p_cl (by omega), d1]
      exact ⟨_, _, _, _, _, _, _, _, _, _, _, _, _, _, _, _, _, _, _, _, rfl, rfl, hI⟩
    by_cases h1 : y = 1
    · subst h1
      rw [if_pos (by decide), if_pos (by decide), if_neg (by decide), if_pos rfl, if_neg (by decide), if_pos rfl, Book_strokesOf_in hk hne, Option.bind_some, c2, p_ga (by omega) (by omega), p_cl (by omega), d2]
      exact ⟨_, _, _, _, _, _, _, _, _, _, _, _, _, _, _, _, _, _, _, _, rfl, rfl, hI⟩
    by_cases h2 : y = 2
    · subst h2
      rw [if_pos (by decide), if_pos (by decide), if_neg (by decide), if_neg (by decide), if_pos rfl, if_neg (by decide), if_neg (by decide), if_pos rfl, Book_lengthOf_in hk hne, Option.bind_some, c3, p_ga (by omega) (by omega), p_cl (by omega), d3]
      exact ⟨_, _, _, _, _, _, _, _, _, _, _, _, _, _, _, _, _, _, _, _, rfl, rfl, hI⟩
    by_cases h3 : y = 3
    · subst h3
      obtain ⟨cz', L, V, sz', rw', pz', ps', pl', rs', beh', ch', la', ow', pb', ea', fa', s1, s2⟩ := settle_ok (cz := cz) (L0 := L0) (V0 := V0) (ch := ch) hN hV hn hst hC hI
      obtain ⟨cm', lm', mch', mea', mfa', mla', mlb', ma', m1, m2, m3, m4, m5, m6⟩ := mAll_ok (tr := tr) (le := le) (sh := sh) (lk := lk) (cm := cm) (lm := lm) (ch := mch) (ea := mea) (fa := mfa) (la := mla) (lb := mlb) (a := ma) hN hV hn hst hrec hM
      have hT := RD_len (ne := ne) (sc := sc) (st := st) (row := row) n
      obtain ⟨t7, tl⟩ := txs_ok hV hn hst n (Nat.le_refl n)
      obtain ⟨t1, t2, t3, t4, t5, t6, t7', t8, t9, t10, t11⟩ := id s2
      have hc := cCount_loop (x := nI k) hn t8 t11 (RD ne sc st row n).length 0 N (sts_zero n) (by rw [RD]; simp) (by omega)
      have hl := mCount_loop (x := nI k) (le := nI (txs kd ln tx row (RD ne sc st row n)).1.length) (sh := (txs kd ln tx row (RD ne sc st row n)).2.1) (lk := (txs kd ln tx row (RD ne sc st row n)).2.2) (cm := cm') (lm := lm') (ch := mch') (la := mla') (lb := mlb') (a := ma') hn m5 (RD ne sc st row n).length 0 N (sts_zero n) (by rw [RD]; simp) (by omega)
      rw [show RD ne sc st row 0 = [] from by rw [RD]] at hc hl
      have hc' : jf_Transcript_countOf N (nI k) sz' (nI n) la' ea' = some (nI (cnt (nI k) (RD ne sc st row n))) := by
        rw [jf_Transcript_countOf, t1]
        exact hc
      rw [if_pos (by decide), if_pos (by decide), if_neg (by decide), if_neg (by decide), if_neg (by decide), if_pos rfl, if_neg (by decide), if_neg (by decide), if_neg (by decide), if_pos rfl, s1, Option.bind_some, m1, Option.bind_some]
      dsimp only
      rw [hc', Option.bind_some]
      exact ⟨_, _, _, _, _, _, _, _, _, _, _, _, _, _, _, _, _, _, _, n, rfl, hl, trI_of s2⟩
    by_cases hlo : y < 10
    · have h20 : y < 20 := Int32.lt_trans hlo (by decide)
      rw [if_pos h20, if_pos hlo, if_neg h0, if_neg h1, if_neg h2, if_neg h3, if_neg h0, if_neg h1, if_neg h2, if_neg h3, if_pos hlo, jf_Model_book_b132, if_pos h20]
      exact ⟨_, _, _, _, _, _, _, _, _, _, _, _, _, _, _, _, _, _, _, _, rfl, rfl, hI⟩
    · obtain ⟨j, hj, rfl⟩ := y_nn y (fun q => hlo (Int32.lt_trans q (by decide)))
      have h10 : 10 ≤ j := by
        rcases Nat.lt_or_ge j 10 with q | q
        · exact absurd (p_ylt (b := 10) q (by omega)) hlo
        · exact q
      have e10 : (10 : Int32) + nI (sc k) = nI (10 + sc k) := by rw [show (10 : Int32) = nI 10 from rfl, nI_add]
      have e20 : (20 : Int32) + nI (ln k) = nI (20 + ln k) := by rw [show (20 : Int32) = nI 20 from rfl, nI_add]
      have s10 : nI j - 10 = nI (j - 10) := p_sub (b := 10) h10
      rw [if_neg hlo, if_neg h0, if_neg h1, if_neg h2, if_neg h3, if_neg hlo, p_ga (by omega) (by omega), p_cl (by omega), d2, e10]
      rcases Nat.lt_or_ge j 20 with hj20 | hj20
      · rw [if_pos (show nI j < 20 from p_ylt (b := 20) hj20 (by omega)), s10]
        rcases Nat.lt_or_ge (j - 10) (sc k) with q | q
        · have e5 : 5 * nI k + nI j - 10 = nI (5 * k + (j - 10)) := by
            rw [show (5 : Int32) = nI 5 from rfl, pk_mul, nI_add, show (10 : Int32) = nI 10 from rfl, p_sub (by omega), show 5 * k + j - 10 = 5 * k + (j - 10) by omega]
          rw [Book_strokeAt_in hk hne c2 q v3, Option.bind_some, c4 _ q, if_neg (p_nle (by omega) (by omega)), e5, p_ga (by omega) (by omega), p_cl (by omega), d4 _ q]
          exact ⟨_, _, _, _, _, _, _, _, _, _, _, _, _, _, _, _, _, _, _, _, rfl, rfl, hI⟩
        · rw [jf_Book_strokeAt, if_neg (p_n0 (by omega)), if_neg (p_nle hk (by omega)), if_neg (p_n0 (by omega)), p_ga (by omega) (by omega), p_cl (by omega), c2, if_pos (p_yle q (by omega)), jf_Book_strokeAt_b30, jf_Book_strokeAt_b31, if_pos rfl, Option.bind_some, if_pos (p_yle (by omega) (by omega)), jf_Model_book_b132, if_pos (show nI j < 20 from p_ylt (b := 20) hj20 (by omega))]
          exact ⟨_, _, _, _, _, _, _, _, _, _, _, _, _, _, _, _, _, _, _, _, rfl, rfl, hI⟩
      · have s20 : nI j - 20 = nI (j - 20) := p_sub (b := 20) hj20
        rw [if_neg (show ¬ nI j < 20 from p_nlt (b := 20) hj20 (by omega)), s20, if_pos (p_yle (by omega) (by omega)), jf_Model_book_b132, if_neg (show ¬ nI j < 20 from p_nlt (b := 20) hj20 (by omega)), p_ga (by omega) (by omega), p_cl (by omega), d3, e20, s20]
        rcases Nat.lt_or_ge (j - 20) (ln k) with q | q
        · obtain ⟨m, hm, e⟩ := bk_7 hV hk q
          rw [Book_letterAt_in hk hne c3 q h16, Option.bind_some, c5 _ q, if_neg (p_nle (by omega) (by omega)), jf_Model_byteOf, show (16 : Int32) = nI 16 from rfl, pk_mul, nI_add, p_ga (by omega) (by omega), Option.bind_some, p_cl (by omega), d5 _ q, e, nI_low hm]
          exact ⟨_, _, _, _, _, _, _, _, _, _, _, _, _, _, _, _, _, _, _, _, rfl, rfl, hI⟩
        · rw [jf_Book_letterAt, if_neg (p_n0 (by omega)), if_neg (p_nle hk (by omega)), if_neg (p_n0 (by omega)), p_ga (by omega) (by omega), p_cl (by omega), c3, if_pos (p_yle q (by omega)), jf_Book_letterAt_b30, jf_Book_letterAt_b31, if_pos rfl, Option.bind_some, if_pos (p_yle (by omega) (by omega))]
          exact ⟨_, _, _, _, _, _, _, _, _, _, _, _, _, _, _, _, _, _, _, _, rfl, rfl, hI⟩
