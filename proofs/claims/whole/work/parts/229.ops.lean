/-! answers of count, told, octet, of and book -/
abbrev MO := Int32 × Int32 × Int32 × Int32 × Int32 × Int32 × (Nat → Int32) × (Nat → Int32) × (Nat → Int32) × (Nat → Int32) × (Nat → Int32) × (Nat → Int32)
theorem op_count {N ne n q : Nat} {kd : Nat → Int32} {sc : Nat → Nat} {st : Nat → Int32} {ln : Nat → Nat} {tx row : Nat → Int32} {pz ps pl L0 V0 rs sz rw se cz : Int32} {ak al ax asc ast pb ea fa beh ch la ow : Nat → Int32} {tr le sh lk cm lm : Int32} {mk rec mc ms ml mx mch mea mfa mla mlb ma : Nat → Int32} {x pe pst ts : Int32} (hN : 9000 ≤ N) (hV : bkV ne kd sc st ln tx) (hn : n ≤ 300) (hst : ∀ i, i < n → isSt (row i)) (hrec : ∀ i, i < n → rec i = row i) (hC : bkC ne kd sc st ln tx (nI ne) ak asc ast al ax) (hM : bkC ne kd sc st ln tx (nI ne) mk mc ms ml mx) (hI : trI ne kd sc st ln tx row n q sz rw se pz ps pl rs beh la ow pb ea fa) : ∃ (r pz' ps' pl' L V rs' sz' rw' cz' : Int32) (pb' ea' fa' beh' ch' la' ow' : Nat → Int32) (o : MO), jf_Room_count N x (nI ne) pe pst (nI n) ts ak al ax asc ast row pz ps pl L0 V0 rs sz rw se cz pb ea fa beh ch la ow = some (r, pz', ps', pl', L, V, rs', sz', rw', 1, cz', pb', ea', fa', beh', ch', la', ow') ∧ jf_Model_count N x ts (nI ne) (nI n) pe pst mk rec mc ms ml mx tr le sh lk cm lm mch mea mfa mla mlb ma = some (r, o) ∧ trS ne kd sc st ln tx row n sz' rw' pz' ps' pl' rs' beh' la' ow' pb' ea' fa' := by
  obtain ⟨cz', L, V, sz', rw', pz', ps', pl', rs', beh', ch', la', ow', pb', ea', fa', s1, s2⟩ := settle_ok (cz := cz) (L0 := L0) (V0 := V0) (ch := ch) hN hV hn hst hC hI
  obtain ⟨cm', lm', mch', mea', mfa', mla', mlb', ma', m1, m2, m3, m4, m5, m6⟩ := mAll_ok (tr := tr) (le := le) (sh := sh) (lk := lk) (cm := cm) (lm := lm) (ch := mch) (ea := mea) (fa := mfa) (la := mla) (lb := mlb) (a := ma) hN hV hn hst hrec hM
  have hT := RD_len (ne := ne) (sc := sc) (st := st) (row := row) n
  obtain ⟨t7, tl⟩ := txs_ok hV hn hst n (Nat.le_refl n)
  obtain ⟨t1, t2, t3, t4, t5, t6, -⟩ := id s2
  rw [jf_Room_count, s1, Option.bind_some, jf_Model_count, m1, Option.bind_some]
  dsimp only
  by_cases h0 : x = 0
  · rw [if_pos h0, if_pos h0, jf_Reading_size, Option.bind_some]
    exact ⟨_, _, _, _, _, _, _, _, _, _, _, _, _, _, _, _, _, _, rfl, rfl, s2⟩
  rw [if_neg h0, if_neg h0]
  by_cases h1 : x = 1
  · rw [if_pos h1, if_pos h1, jf_Transcript_size, Option.bind_some, t1]
    rw [t1] at s2
    exact ⟨_, _, _, _, _, _, _, _, _, _, _, _, _, _, _, _, _, _, rfl, rfl, s2⟩
  rw [if_neg h1, if_neg h1]
  by_cases h2 : x = 2
  · have hl := mRaws_loop (le := nI (txs kd ln tx row (RD ne sc st row n)).1.length) (sh := (txs kd ln tx row (RD ne sc st row n)).2.1) (lk := (txs kd ln tx row (RD ne sc st row n)).2.2) (cm := cm') (lm := lm') (ch := mch') (la := mla') (lb := mlb') (a := ma') hn m5 (RD ne sc st row n).length 0 N (sts_zero n) (by rw [RD]; simp) (by omega)
    rw [show RD ne sc st row 0 = [] from by rw [RD], cnt_rws hV.1] at hl
    rw [if_pos h2, if_pos h2, jf_Transcript_raws, Option.bind_some, show jf_Model_count_b72 N 0 0 (nI (RD ne sc st row n).length) (nI (txs kd ln tx row (RD ne sc st row n)).1.length) (txs kd ln tx row (RD ne sc st row n)).2.1 (txs kd ln tx row (RD ne sc st row n)).2.2 cm' lm' mch' mea' mfa' mla' mlb' ma' = _ from hl, t2]
    rw [t2] at s2
    exact ⟨_, _, _, _, _, _, _, _, _, _, _, _, _, _, _, _, _, _, rfl, rfl, s2⟩
  rw [if_neg h2, if_neg h2]
  by_cases h3 : x = 3
  · rw [if_pos h3, if_pos h3, jf_Page_size, Option.bind_some, t3]
    rw [t3] at s2
    exact ⟨_, _, _, _, _, _, _, _, _, _, _, _, _, _, _, _, _, _, rfl, rfl, s2⟩
  rw [if_neg h3, if_neg h3]
  by_cases h4 : x = 4
  · rw [if_pos h4, if_pos h4, jf_Book_size, Option.bind_some]
    exact ⟨_, _, _, _, _, _, _, _, _, _, _, _, _, _, _, _, _, _, rfl, rfl, s2⟩
  rw [if_neg h4, if_neg h4]
  by_cases h5 : x = 5
  · rw [if_pos h5, if_pos h5, jf_Tape_size, Option.bind_some]
    exact ⟨_, _, _, _, _, _, _, _, _, _, _, _, _, _, _, _, _, _, rfl, rfl, s2⟩
  rw [if_neg h5, if_neg h5]
  by_cases h6 : x = 6
  · rw [if_pos h6, if_pos h6, jf_Page_shift, Option.bind_some, t4]
    rw [t4] at s2
    exact ⟨_, _, _, _, _, _, _, _, _, _, _, _, _, _, _, _, _, _, rfl, rfl, s2⟩
  rw [if_neg h6, if_neg h6]
  by_cases h7 : x = 7
  · rw [if_pos h7, if_pos h7, jf_Page_link, Option.bind_some, t5]
    rw [t5] at s2
    exact ⟨_, _, _, _, _, _, _, _, _, _, _, _, _, _, _, _, _, _, rfl, rfl, s2⟩
  rw [if_neg h7, if_neg h7]
  by_cases h8 : x = 8
  · rw [if_pos h8, if_pos h8, jf_Planner_plannedEntries, Option.bind_some]
    exact ⟨_, _, _, _, _, _, _, _, _, _, _, _, _, _, _, _, _, _, rfl, rfl, s2⟩
  rw [if_neg h8, if_neg h8]
  by_cases h9 : x = 9
  · rw [if_pos h9, if_pos h9, jf_Planner_plannedStrokes, Option.bind_some]
    exact ⟨_, _, _, _, _, _, _, _, _, _, _, _, _, _, _, _, _, _, rfl, rfl, s2⟩
  rw [if_neg h9, if_neg h9]
  exact ⟨_, _, _, _, _, _, _, _, _, _, _, _, _, _, _, _, _, _, rfl, rfl, s2⟩
theorem op_told {N ne n q : Nat} {kd : Nat → Int32} {sc : Nat → Nat} {st : Nat → Int32} {ln : Nat → Nat} {tx row : Nat → Int32} {pz ps pl L0 V0 rs sz rw se cz : Int32} {ak al ax asc ast pb ea fa beh ch la ow : Nat → Int32} {tr le sh lk cm lm : Int32} {mk rec mc ms ml mx mch mea mfa mla mlb ma : Nat → Int32} {x y : Int32} (hN : 9000 ≤ N) (hV : bkV ne kd sc st ln tx) (hn : n ≤ 300) (hst : ∀ i, i < n → isSt (row i)) (hrec : ∀ i, i < n → rec i = row i) (hC : bkC ne kd sc st ln tx (nI ne) ak asc ast al ax) (hM : bkC ne kd sc st ln tx (nI ne) mk mc ms ml mx) (hI : trI ne kd sc st ln tx row n q sz rw se pz ps pl rs beh la ow pb ea fa) : ∃ (r pz' ps' pl' L V rs' sz' rw' cz' : Int32) (pb' ea' fa' beh' ch' la' ow' : Nat → Int32) (o : MO), jf_Room_told N x y (nI ne) (nI n) ak al ax asc ast row pz ps pl L0 V0 rs sz rw se cz pb ea fa beh ch la ow = some (r, pz', ps', pl', L, V, rs', sz', rw', 1, cz', pb', ea', fa', beh', ch', la', ow') ∧ jf_Model_told N x y (nI ne) (nI n) mk rec mc ms ml mx tr le sh lk cm lm mch mea mfa mla mlb ma = some (r, o) ∧ trS ne kd sc st ln tx row n sz' rw' pz' ps' pl' rs' beh' la' ow' pb' ea' fa' := by
  obtain ⟨cz', L, V, sz', rw', pz', ps', pl', rs', beh', ch', la', ow', pb', ea', fa', s1, s2⟩ := settle_ok (cz := cz) (L0 := L0) (V0 := V0) (ch := ch) hN hV hn hst hC hI
  obtain ⟨cm', lm', mch', mea', mfa', mla', mlb', ma', m1, m2, m3, m4, m5, m6⟩ := mAll_ok (tr := tr) (le := le) (sh := sh) (lk := lk) (cm := cm) (lm := lm) (ch := mch) (ea := mea) (fa := mfa) (la := mla) (lb := mlb) (a := ma) hN hV hn hst hrec hM
  have hT := RD_len (ne := ne) (sc := sc) (st := st) (row := row) n
  obtain ⟨t7, tl⟩ := txs_ok hV hn hst n (Nat.le_refl n)
  obtain ⟨t1, t2, t3, t4, t5, t6, t7', t8, t9, t10, t11⟩ := id s2
  rw [jf_Room_told, s1, Option.bind_some, jf_Model_told, m1, Option.bind_some]
  dsimp only
  rw [jf_Transcript_size, Option.bind_some]
  rcases p_ix x (n := (RD ne sc st row n).length) (by omega) with h | ⟨h, h'⟩ | ⟨t, ht, rfl⟩
  · rw [if_pos h, if_pos h]
    exact ⟨_, _, _, _, _, _, _, _, _, _, _, _, _, _, _, _, _, _, rfl, rfl, s2⟩
  · rw [if_neg h', if_neg h', t1, if_neg (Int32.not_lt.mpr h), if_neg (Int32.not_lt.mpr h)]
    rw [t1] at s2
    exact ⟨_, _, _, _, _, _, _, _, _, _, _, _, _, _, _, _, _, _, rfl, rfl, s2⟩
  · obtain ⟨c, m, e, hm, hR, hct, hcm, hmn⟩ := sts_at n t ht
    subst hct
    have hc : c ∈ sts ne sc st row n := sts_trans n m c hm (by rw [sts_c hR]; exact List.mem_cons_of_mem _ sts_self)
    have hml : (RD ne sc st row m).length = (RD ne sc st row c).length + 1 := by rw [hR, List.length_cons]
    have hfirst : jf_Transcript_firstOf (nI (RD ne sc st row c).length) sz' (nI n) la' fa' = some (nI c) := by
      rw [jf_Transcript_firstOf, t1, lastOf_at hn t8 hm hR, Option.bind_some, jf_Reading_firstAt, if_neg (p_n0 (by omega)), if_neg (p_nle (by omega) (by omega)), p_ga (by omega) (by omega), p_cl (by omega), (rdI_at t11 hmn (by omega) hR).1, Option.bind_some]
    rw [if_neg (p_n0 (by omega)), if_neg (p_n0 (by omega)), if_pos (show nI (RD ne sc st row c).length < sz' from by rw [t1]; exact p_ylt (by omega) (by omega)), if_pos (p_ylt (by omega) (by omega))]
    by_cases h0 : y = 0
    · rw [if_pos h0, if_pos h0, t1, entryOf_at hn t8 t11 hm hcm hR, Option.bind_some, p_ga (by omega) (by omega), p_cl (by omega), (stk_at m5 hm hR).2]
      rw [t1] at s2
      exact ⟨_, _, _, _, _, _, _, _, _, _, _, _, _, _, _, _, _, _, rfl, rfl, s2⟩
    rw [if_neg h0, if_neg h0]
    by_cases h1 : y = 1
    · rw [if_pos h1, if_pos h1, hfirst, Option.bind_some, p_ga (by omega) (by omega), p_cl (by omega), (stk_at m5 hm hR).1]
      exact ⟨_, _, _, _, _, _, _, _, _, _, _, _, _, _, _, _, _, _, rfl, rfl, s2⟩
    rw [if_neg h1, if_neg h1]
    by_cases h2 : y = 2
    · have hf := fst_at m5 m6 hm
      rw [hml] at hf
      have hsub : nI (m - 1) - nI c + 1 = nI m - nI c := by
        rw [p_sub (by omega), p_sub (by omega), nI_1, show m - 1 - c + 1 = m - c by omega]
      rw [if_pos h2, if_pos h2, jf_Transcript_strokesOf, hfirst, t1, lastOf_at hn t8 hm hR, Option.bind_some, Option.bind_some, Option.bind_some, nI_1, p_ga (by omega) (by omega), p_ga (by omega) (by omega), p_cl (by omega), p_cl (by omega), hf, (stk_at m5 hm hR).1, hsub]
      rw [t1] at s2
      exact ⟨_, _, _, _, _, _, _, _, _, _, _, _, _, _, _, _, _, _, rfl, rfl, s2⟩
    rw [if_neg h2, if_neg h2]
    by_cases h3 : y = 3
    · have hah : jf_Transcript_lengthAhead (nI (RD ne sc st row c).length) sz' beh' = some (mla' (RD ne sc st row c).length) := by
        rw [m3 c m e hm hR, jf_Transcript_lengthAhead, t1]
        rcases Nat.eq_zero_or_pos c with c0 | c0
        · subst c0
          rw [show RD ne sc st row 0 = [] from by rw [RD], if_pos (show nI ([] : List (Nat × Option Nat)).length = 0 from rfl), txs]
          rfl
        · obtain ⟨f, e', hf, hR'⟩ := RD_top (ne := ne) (sc := sc) (st := st) (row := row) c0
          have hcl : (RD ne sc st row c).length = (RD ne sc st row f).length + 1 := by rw [hR', List.length_cons]
          rw [if_neg (show ¬ nI (RD ne sc st row c).length = 0 from p_ne (b := 0) (by omega) (by omega) (by omega)), p_s1 (by omega), hcl, Nat.add_sub_cancel, jf_Transcript_lengthBehind, if_neg (p_n0 (by omega)), if_neg (p_nle (by omega) (by omega)), p_ga (by omega) (by omega), p_cl (by omega), t7' f c e' hc hR', Option.bind_some]
      rw [if_pos h3, if_pos h3, hah, Option.bind_some, p_ga (by omega) (by omega), p_cl (by omega)]
      exact ⟨_, _, _, _, _, _, _, _, _, _, _, _, _, _, _, _, _, _, rfl, rfl, s2⟩
    rw [if_neg h3, if_neg h3]
    by_cases h4 : y = 4
    · rw [if_pos h4, if_pos h4, jf_Transcript_lengthBehind, t1, if_neg (p_n0 (by omega)), if_neg (p_nle (by omega) (by omega)), p_ga (by omega) (by omega), p_cl (by omega), t7' c m e hm hR, Option.bind_some, p_ga (by omega) (by omega), m4 c m e hm hR]
      rw [t1] at s2
      exact ⟨_, _, _, _, _, _, _, _, _, _, _, _, _, _, _, _, _, _, rfl, rfl, s2⟩
    rw [if_neg h4, if_neg h4]
    exact ⟨_, _, _, _, _, _, _, _, _, _, _, _, _, _, _, _, _, _, rfl, rfl, s2⟩
theorem op_octet {N ne n q : Nat} {kd : Nat → Int32} {sc : Nat → Nat} {st : Nat → Int32} {ln : Nat → Nat} {tx row : Nat → Int32} {pz ps pl L0 V0 rs sz rw se cz : Int32} {ak al ax asc ast pb ea fa beh ch la ow : Nat → Int32} {tr le sh lk cm lm : Int32} {mk rec mc ms ml mx mch mea mfa mla mlb ma : Nat → Int32} {x : Int32} (hN : 9000 ≤ N) (hV : bkV ne kd sc st ln tx) (hn : n ≤ 300) (hst : ∀ i, i < n → isSt (row i)) (hrec : ∀ i, i < n → rec i = row i) (hC : bkC ne kd sc st ln tx (nI ne) ak asc ast al ax) (hM : bkC ne kd sc st ln tx (nI ne) mk mc ms ml mx) (hI : trI ne kd sc st ln tx row n q sz rw se pz ps pl rs beh la ow pb ea fa) : ∃ (r pz' ps' pl' L V rs' sz' rw' cz' : Int32) (pb' ea' fa' beh' ch' la' ow' : Nat → Int32) (o : MO), jf_Room_octet N x (nI ne) (nI n) ak al ax asc ast row pz ps pl L0 V0 rs sz rw se cz pb ea fa beh ch la ow = some (r, pz', ps', pl', L, V, rs', sz', rw', 1, cz', pb', ea', fa', beh', ch', la', ow') ∧ jf_Model_octet N x (nI ne) (nI n) mk rec mc ms ml mx tr le sh lk cm lm mch mea mfa mla mlb ma = some (r, o) ∧ trS ne kd sc st ln tx row n sz' rw' pz' ps' pl' rs' beh' la' ow' pb' ea' fa' := by
  obtain ⟨cz', L, V, sz', rw', pz', ps', pl', rs', beh', ch', la', ow', pb', ea', fa', s1, s2⟩ := settle_ok (cz := cz) (L0 := L0) (V0 := V0) (ch := ch) hN hV hn hst hC hI
  obtain ⟨cm', lm', mch', mea', mfa', mla', mlb', ma', m1, m2, m3, m4, m5, m6⟩ := mAll_ok (tr := tr) (le := le) (sh := sh) (lk := lk) (cm := cm) (lm := lm) (ch := mch) (ea := mea) (fa := mfa) (la := mla) (lb := mlb) (a := ma) hN hV hn hst hrec hM
  have hT := RD_len (ne := ne) (sc := sc) (st := st) (row := row) n
  obtain ⟨t7, tl⟩ := txs_ok hV hn hst n (Nat.le_refl n)
  obtain ⟨t1, t2, t3, t4, t5, t6, t7', t8, t9, t10, t11⟩ := id s2
  rw [jf_Room_octet, s1, Option.bind_some, jf_Model_octet, m1, Option.bind_some]
  dsimp only
  rw [jf_Page_byteAt]
  rcases p_ix x (n := (txs kd ln tx row (RD ne sc st row n)).1.length) (by omega) with h | ⟨h, h'⟩ | ⟨i, hi, rfl⟩
  · rw [if_pos h, if_pos h, Option.bind_some]
    exact ⟨_, _, _, _, _, _, _, _, _, _, _, _, _, _, _, _, _, _, rfl, rfl, s2⟩
  · rw [if_neg h', if_neg h', t3, if_pos h, if_pos h, Option.bind_some]
    rw [t3] at s2
    exact ⟨_, _, _, _, _, _, _, _, _, _, _, _, _, _, _, _, _, _, rfl, rfl, s2⟩
  · obtain ⟨m, hm, e⟩ := t7 _ (List.getElem_mem hi)
    rw [if_neg (p_n0 (by omega)), if_neg (p_n0 (by omega)), t3, if_neg (p_nle hi (by omega)), if_neg (p_nle hi (by omega)), p_ga (by omega) (by omega), p_ga (by omega) (by omega), p_cl (by omega), ar_at t10 hi, ar_at m2 hi, e, nI_low hm, Option.bind_some]
    rw [t3] at s2
    exact ⟨_, _, _, _, _, _, _, _, _, _, _, _, _, _, _, _, _, _, rfl, rfl, s2⟩
theorem op_of {N ne n q : Nat} {kd : Nat → Int32} {sc : Nat → Nat} {st : Nat → Int32} {ln : Nat → Nat} {tx row : Nat → Int32} {pz ps pl L0 V0 rs sz rw se cz : Int32} {ak al ax asc ast pb ea fa beh ch la ow : Nat → Int32} {tr le sh lk cm lm : Int32} {mk rec mc ms ml mx mch mea mfa mla mlb ma : Nat → Int32} {x : Int32} (hN : 9000 ≤ N) (hV : bkV ne kd sc st ln tx) (hn : n ≤ 300) (hst : ∀ i, i < n → isSt (row i)) (hrec : ∀ i, i < n → rec i = row i) (hC : bkC ne kd sc st ln tx (nI ne) ak asc ast al ax) (hM : bkC ne kd sc st ln tx (nI ne) mk mc ms ml mx) (hI : trI ne kd sc st ln tx row n q sz rw se pz ps pl rs beh la ow pb ea fa) : ∃ (r pz' ps' pl' L V rs' sz' rw' cz' : Int32) (pb' ea' fa' beh' ch' la' ow' : Nat → Int32) (o : MO), jf_Room_of N x (nI ne) (nI n) ak al ax asc ast row pz ps pl L0 V0 rs sz rw se cz pb ea fa beh ch la ow = some (r, pz', ps', pl', L, V, rs', sz', rw', 1, cz', pb', ea', fa', beh', ch', la', ow') ∧ jf_Model_of N x (nI ne) (nI n) mk rec mc ms ml mx tr le sh lk cm lm mch mea mfa mla mlb ma = some (r, o) ∧ trS ne kd sc st ln tx row n sz' rw' pz' ps' pl' rs' beh' la' ow' pb' ea' fa' := by
  obtain ⟨cz', L, V, sz', rw', pz', ps', pl', rs', beh', ch', la', ow', pb', ea', fa', s1, s2⟩ := settle_ok (cz := cz) (L0 := L0) (V0 := V0) (ch := ch) hN hV hn hst hC hI
  obtain ⟨cm', lm', mch', mea', mfa', mla', mlb', ma', m1, m2, m3, m4, m5, m6⟩ := mAll_ok (tr := tr) (le := le) (sh := sh) (lk := lk) (cm := cm) (lm := lm) (ch := mch) (ea := mea) (fa := mfa) (la := mla) (lb := mlb) (a := ma) hN hV hn hst hrec hM
  have hT := RD_len (ne := ne) (sc := sc) (st := st) (row := row) n
  obtain ⟨t7, tl⟩ := txs_ok hV hn hst n (Nat.le_refl n)
  obtain ⟨t1, t2, t3, t4, t5, t6, t7', t8, t9, t10, t11⟩ := id s2
  rw [jf_Room_of, s1, Option.bind_some, jf_Model_of, m1, Option.bind_some]
  dsimp only
  rw [jf_Transcript_ownerOf, jf_Reading_has]
  rcases p_ix x (n := n) (by omega) with h | ⟨h, h'⟩ | ⟨i, hi, rfl⟩
  · rw [if_pos h, if_pos h, Option.bind_some, if_pos rfl, Option.bind_some]
    exact ⟨_, _, _, _, _, _, _, _, _, _, _, _, _, _, _, _, _, _, rfl, rfl, s2⟩
  · rw [if_neg h', if_neg h', if_pos h, if_neg (Int32.not_lt.mpr h), Option.bind_some, if_pos rfl, Option.bind_some]
    exact ⟨_, _, _, _, _, _, _, _, _, _, _, _, _, _, _, _, _, _, rfl, rfl, s2⟩
  · obtain ⟨c', m', e', h1, h2, h3, h4, h5⟩ := mOf_loop (tr := nI (RD ne sc st row n).length) (le := nI (txs kd ln tx row (RD ne sc st row n)).1.length) (sh := (txs kd ln tx row (RD ne sc st row n)).2.1) (lk := (txs kd ln tx row (RD ne sc st row n)).2.2) (cm := cm') (lm := lm') (ch := mch') (la := mla') (lb := mlb') (a := ma') hn hi m5 m6 n 0 N (sts_zero n) (by omega) (by omega) (by omega)
    rw [show RD ne sc st row 0 = [] from by rw [RD]] at h5
    rw [if_neg (p_n0 (by omega)), if_neg (p_n0 (by omega)), if_neg (p_nle hi (by omega)), if_pos (p_ylt hi (by omega)), Option.bind_some, if_neg (by decide), if_neg (show ¬ 300 ≤ nI i from p_nle (a := 300) (by omega) (by omega)), p_ga (by omega) (by omega), p_cl (by omega), t9 m' c' e' h1 h2 i h3 h4, Option.bind_some]
    exact ⟨_, _, _, _, _, _, _, _, _, _, _, _, _, _, _, _, _, _, rfl, h5, s2⟩
