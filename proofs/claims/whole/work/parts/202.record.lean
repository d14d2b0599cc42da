/-! the record: stroke, back, correct, insert, cut -/
def isSt (v : Int32) : Prop := ¬ v ≤ 0 ∧ ¬ 4194303 < v
theorem cSt_y {v : Int32} (h : isSt v) : jf_Room_isStroke v = some 1 := by
  rw [jf_Room_isStroke, if_neg h.1, if_neg h.2]
theorem cSt_n {v : Int32} (h : ¬ isSt v) : jf_Room_isStroke v = some 0 := by
  rw [jf_Room_isStroke]
  by_cases h1 : v ≤ 0
  · rw [if_pos h1]
  · rw [if_neg h1]
    by_cases h2 : 4194303 < v
    · rw [if_pos h2]
    · exact absurd ⟨h1, h2⟩ h
theorem st_22 (v : Int32) : (4194304 ≤ v) = (4194303 < v) := by
  rw [Int32.le_iff_toInt_le, Int32.lt_iff_toInt_lt, show (4194304 : Int32).toInt = 4194304 from by decide, show (4194303 : Int32).toInt = 4194303 from by decide]
  exact propext ⟨fun h => by omega, fun h => by omega⟩
theorem mSt (v : Int32) : jf_Model_isStroke v = jf_Room_isStroke v := by
  rw [jf_Room_isStroke, jf_Model_isStroke]
  simp only [st_22]
/-- both records hold the same n strokes -/
def rcR (n : Nat) (cs : Int32) (ck : Nat → Int32) (ms : Int32) (mk : Nat → Int32) : Prop := n ≤ 300 ∧ cs = nI n ∧ ms = nI n ∧ ∀ i, i < n → mk i = ck i ∧ isSt (ck i)
/-- nothing has changed, or the text is unsettled and what was read ahead of q' stays -/
def rcP (n q : Nat) (cs rs st : Int32) (ck : Nat → Int32) (cs' rs' st' : Int32) (ck' : Nat → Int32) (ms' : Int32) (mk' : Nat → Int32) : Prop := (cs' = cs ∧ rs' = rs ∧ st' = st ∧ ck' = ck ∧ rcR n cs ck ms' mk') ∨ (st' = 0 ∧ ∃ n' q' : Nat, rcR n' cs' ck' ms' mk' ∧ rs' = nI q' ∧ q' ≤ q ∧ q' ≤ n' ∧ ∀ i, i < q' → ck' i = ck i)
theorem Reading_has_in {j n : Nat} (h : j < n) (hn : n ≤ 300) : jf_Reading_has (nI j) (nI n) = some 1 := by
  rw [jf_Reading_has, if_neg (nI_pos (by omega)), if_neg (by rw [p_le (by omega) (by omega)]; omega)]
theorem Reading_has_neg {x y : Int32} (h : x < 0) : jf_Reading_has x y = some 0 := by
  rw [jf_Reading_has, if_pos h]
theorem Reading_has_big {x y : Int32} (h : y ≤ x) : jf_Reading_has x y = some 0 := by
  rw [jf_Reading_has]
  by_cases h0 : x < 0
  · rw [if_pos h0]
  · rw [if_neg h0, if_pos h]
theorem p_gc {α : Type} {a b n n0 n1 : Nat} {k : Option α} (h0 : a + n ≤ n0) (h1 : b + n ≤ n1) (hn0 : n0 < 2147483648) (hn1 : n1 < 2147483648) : jgc (nI a) (nI b) (nI n) n0 n1 k = k := by
  unfold jgc
  rw [if_neg]
  rw [p_cl (by omega), p_cl (by omega), p_cl (by omega)]
  rintro (h | h | h | h | h)
  · exact nI_pos (by omega) h
  · exact nI_pos (by omega) h
  · exact nI_pos (by omega) h
  · omega
  · omega
theorem Reading_put_ok {i n : Nat} {v : Int32} {k : Nat → Int32} (hi : i ≤ n) (hn : n < 300) : jf_Reading_put (nI i) v (nI n) k = some (nI (n + 1), upd (va_cpy k k i (i + 1) (n - i)) i v) := by
  rw [jf_Reading_put, if_neg (nI_pos (by omega)), if_neg (by rw [p_lt (by omega) (by omega)]; omega), if_pos (by rw [p_lit 300, p_lt (by omega) (by omega)]; omega)]
  rw [nI_1, p_sub hi, p_gc (by omega) (by omega) (by omega) (by omega), p_ga (by omega) (by omega), p_cl (by omega), p_cl (by omega), p_cl (by omega), nI_1]
theorem op_stroke {n q : Nat} {v cs rs st ms : Int32} {ck mk : Nat → Int32} (hq : q ≤ n) (hrs : rs = nI q) (h : rcR n cs ck ms mk) : ∃ (r cs' st' ms' : Int32) (ck' mk' : Nat → Int32), jf_Room_stroke v cs st ck = some (r, cs', st', ck') ∧ jf_Model_stroke v ms mk = some (r, ms', mk') ∧ rcP n q cs rs st ck cs' rs st' ck' ms' mk' := by
  obtain ⟨hn, rfl, rfl, hk⟩ := id h
  by_cases hs : isSt v
  · by_cases hf : n < 300
    · refine ⟨nI (n + 1), nI (n + 1), 0, nI (n + 1), upd (va_cpy ck ck n (n + 1) (n - n)) n v, upd mk n v, ?_, ?_, Or.inr ⟨rfl, n + 1, q, ⟨by omega, rfl, rfl, ?_⟩, hrs, Nat.le_refl q, by omega, ?_⟩⟩
      · rw [jf_Room_stroke, cSt_y hs, Option.bind_some, if_neg (by decide), jf_Reading_isFull, if_pos (by rw [p_lit 300, p_lt (by omega) (by omega)]; exact hf), Option.bind_some, if_pos rfl, jf_Reading_size, Option.bind_some, Reading_put_ok (Nat.le_refl n) hf, Option.bind_some]
        rfl
      · rw [jf_Model_stroke, mSt, cSt_y hs, Option.bind_some, if_neg (by decide), if_neg (by rw [p_lit 300, p_eq (by omega) (by omega)]; omega), p_ga hf (by omega), nI_1, p_cl (by omega)]
      · intro i hi
        by_cases e : i = n
        · subst e; rw [p_upd_s, p_upd_s]; exact ⟨rfl, hs⟩
        · rw [p_upd_n e, p_upd_n e, pk_cpy_out (by omega)]; exact hk i (by omega)
      · intro i hi
        rw [p_upd_n (by omega), pk_cpy_out (by omega)]
    · refine ⟨-1, nI n, st, nI n, ck, mk, ?_, ?_, Or.inl ⟨rfl, rfl, rfl, rfl, h⟩⟩
      · rw [jf_Room_stroke, cSt_y hs, Option.bind_some, if_neg (by decide), jf_Reading_isFull, if_neg (by rw [p_lit 300, p_lt (by omega) (by omega)]; exact hf), Option.bind_some, if_neg (by decide)]
      · rw [jf_Model_stroke, mSt, cSt_y hs, Option.bind_some, if_neg (by decide), if_pos (by rw [p_lit 300, p_eq (by omega) (by omega)]; omega)]
  · refine ⟨-1, nI n, st, nI n, ck, mk, ?_, ?_, Or.inl ⟨rfl, rfl, rfl, rfl, h⟩⟩
    · rw [jf_Room_stroke, cSt_n hs, Option.bind_some, if_pos rfl]
    · rw [jf_Model_stroke, mSt, cSt_n hs, Option.bind_some, if_pos rfl]
theorem readAnew_ok {i q : Nat} {st : Int32} (hi : i < 2147483648) (hq : q < 2147483648) : jf_Room_readAnew (nI i) (nI q) st = some (nI (min q i), 0) := by
  rw [jf_Room_readAnew, jf_Reading_unread, Option.bind_some, jf_Transcript_forget, Option.bind_some]
  by_cases h : i < q
  · rw [if_pos (p_ylt h hq), Nat.min_eq_right (by omega)]
  · rw [if_neg (p_nlt (by omega) hi), Nat.min_eq_left (by omega)]
theorem op_correct {n q : Nat} {x v cs rs st ms : Int32} {ck mk : Nat → Int32} (hq : q ≤ n) (hrs : rs = nI q) (h : rcR n cs ck ms mk) : ∃ (r rs' st' : Int32) (ck' mk' : Nat → Int32), jf_Room_correct x v cs rs st ck = some (r, rs', st', ck') ∧ jf_Model_correct x v ms mk = some (r, mk') ∧ rcP n q cs rs st ck cs rs' st' ck' ms mk' := by
  obtain ⟨hn, rfl, rfl, hk⟩ := id h
  subst hrs
  rcases p_ix x (n := n) (by omega) with h0 | ⟨h1, h0⟩ | ⟨j, hj, rfl⟩
  · refine ⟨0, nI q, st, ck, mk, ?_, ?_, Or.inl ⟨rfl, rfl, rfl, rfl, h⟩⟩
    · rw [jf_Room_correct, Reading_has_neg h0, Option.bind_some, if_pos rfl]
    · rw [jf_Model_correct, if_pos h0]
  · refine ⟨0, nI q, st, ck, mk, ?_, ?_, Or.inl ⟨rfl, rfl, rfl, rfl, h⟩⟩
    · rw [jf_Room_correct, Reading_has_big h1, Option.bind_some, if_pos rfl]
    · rw [jf_Model_correct, if_neg h0, if_pos h1]
  · by_cases hs : isSt v
    · refine ⟨1, nI (min q j), 0, upd ck j v, upd mk j v, ?_, ?_, Or.inr ⟨rfl, n, min q j, ⟨hn, rfl, rfl, ?_⟩, rfl, Nat.min_le_left _ _, by omega, ?_⟩⟩
      · rw [jf_Room_correct, Reading_has_in hj hn, Option.bind_some, if_neg (by decide), cSt_y hs, Option.bind_some, if_neg (by decide), jf_Reading_replace, if_neg (nI_pos (by omega)), if_neg (by rw [p_le (by omega) (by omega)]; omega), p_ga (by omega) (by omega), Option.bind_some, readAnew_ok (by omega) (by omega), Option.bind_some, p_cl (by omega)]
      · rw [jf_Model_correct, if_neg (nI_pos (by omega)), if_neg (by rw [p_le (by omega) (by omega)]; omega), mSt, cSt_y hs, Option.bind_some, if_neg (by decide), p_ga (by omega) (by omega), p_cl (by omega)]
      · intro i hi
        by_cases e : i = j
        · subst e; rw [p_upd_s, p_upd_s]; exact ⟨rfl, hs⟩
        · rw [p_upd_n e, p_upd_n e]; exact hk i hi
      · intro i hi
        rw [p_upd_n (by omega)]
    · refine ⟨0, nI q, st, ck, mk, ?_, ?_, Or.inl ⟨rfl, rfl, rfl, rfl, h⟩⟩
      · rw [jf_Room_correct, Reading_has_in hj hn, Option.bind_some, if_neg (by decide), cSt_n hs, Option.bind_some, if_pos rfl]
      · rw [jf_Model_correct, if_neg (nI_pos (by omega)), if_neg (by rw [p_le (by omega) (by omega)]; omega), mSt, cSt_n hs, Option.bind_some, if_pos rfl]
/-- the reference shifts up by a loop -/
theorem Model_insert_loop {i n : Nat} {v : Int32} (hn : n < 300) : ∀ (d f : Nat) (a : Nat → Int32), i + d ≤ n → d < f → ∃ a', jf_Model_insert_b36 (nI i) v f (nI (i + d)) (nI n) a = some (1, nI (n + 1), a') ∧ a' i = v ∧ (∀ j, j < i → a' j = a j) ∧ (∀ j, i < j → j ≤ i + d → a' j = a (j - 1)) ∧ (∀ j, i + d < j → a' j = a j) := by
  intro d
  induction d with
  | zero =>
    intro f a hd hf
    obtain ⟨f, rfl⟩ : ∃ g, f = g + 1 := ⟨f - 1, by omega⟩
    refine ⟨upd a i v, ?_, p_upd_s, fun j hj => p_upd_n (by omega), fun j h1 h2 => by omega, fun j hj => p_upd_n (by omega)⟩
    rw [jf_Model_insert_b36, Nat.add_zero, if_pos (p_yle (by omega) (by omega)), jf_Model_insert_b61, p_ga (by omega) (by omega), nI_1, p_cl (by omega)]
  | succ d ih =>
    intro f a hd hf
    obtain ⟨f, rfl⟩ : ∃ g, f = g + 1 := ⟨f - 1, by omega⟩
    obtain ⟨a', h1, h2, h3, h4, h5⟩ := ih f (upd a (i + (d + 1)) (a (i + d))) (by omega) (by omega)
    refine ⟨a', ?_, h2, fun j hj => ?_, fun j hj1 hj2 => ?_, fun j hj => ?_⟩
    · rw [jf_Model_insert_b36, if_neg (p_nle (by omega) (by omega)), p_s1 (by omega), p_ga (by omega) (by omega), p_ga (by omega) (by omega), p_cl (by omega), p_cl (by omega), p_d1 (by omega)]
      exact h1
    · rw [h3 j hj, p_upd_n (by omega)]
    · by_cases e : j = i + (d + 1)
      · subst e
        rw [h5 _ (by omega), p_upd_s]
        rfl
      · rw [h4 j hj1 (by omega), p_upd_n (by omega)]
    · rw [h5 j (by omega), p_upd_n (by omega)]
theorem op_insert {N n q : Nat} {x v cs rs st ms : Int32} {ck mk : Nat → Int32} (hN : 301 ≤ N) (hq : q ≤ n) (hrs : rs = nI q) (h : rcR n cs ck ms mk) : ∃ (r cs' rs' st' ms' : Int32) (ck' mk' : Nat → Int32), jf_Room_insert x v cs rs st ck = some (r, cs', rs', st', ck') ∧ jf_Model_insert N x v ms mk = some (r, ms', mk') ∧ rcP n q cs rs st ck cs' rs' st' ck' ms' mk' := by
  obtain ⟨hn, rfl, rfl, hk⟩ := id h
  subst hrs
  have hno : ∀ r1 : jf_Room_insert x v (nI n) (nI q) st ck = some (0, nI n, nI q, st, ck), ∀ r2 : jf_Model_insert N x v (nI n) mk = some (0, nI n, mk), ∃ (r cs' rs' st' ms' : Int32) (ck' mk' : Nat → Int32), jf_Room_insert x v (nI n) (nI q) st ck = some (r, cs', rs', st', ck') ∧ jf_Model_insert N x v (nI n) mk = some (r, ms', mk') ∧ rcP n q (nI n) (nI q) st ck cs' rs' st' ck' ms' mk' := fun r1 r2 => ⟨0, nI n, nI q, st, nI n, ck, mk, r1, r2, Or.inl ⟨rfl, rfl, rfl, rfl, h⟩⟩
  have hc27 : ∀ z : Int32, z = 0 → jf_Room_insert_b27 x v z (nI n) (nI q) st ck = some (0, nI n, nI q, st, ck) := fun z hz => by rw [jf_Room_insert_b27, if_pos hz]
  rcases p_ix x (n := n + 1) (by omega) with h0 | ⟨h1, h0⟩ | ⟨j, hj, rfl⟩
  · refine hno ?_ ?_
    · rw [jf_Room_insert, jf_Reading_size, Option.bind_some, if_neg (fun e : x = nI n => p_n0 (n := n) (by omega) (by rw [← e]; exact h0)), Reading_has_neg h0, Option.bind_some, if_pos rfl, hc27 0 rfl]
    · rw [jf_Model_insert, if_pos h0]
  · have hnx : nI n < x := Int32.lt_of_lt_of_le (nI_lt (Nat.lt_succ_self n) (by omega)) h1
    refine hno ?_ ?_
    · rw [jf_Room_insert, jf_Reading_size, Option.bind_some, if_neg (fun e : x = nI n => absurd hnx (by rw [e]; exact p_nlt (Nat.le_refl n) (by omega))), Reading_has_big (Int32.le_of_lt hnx), Option.bind_some, if_pos rfl, hc27 0 rfl]
    · rw [jf_Model_insert, if_neg h0, if_pos hnx]
  · have e22 : jf_Room_insert (nI j) v (nI n) (nI q) st ck = jf_Room_insert_b27 (nI j) v 1 (nI n) (nI q) st ck := by
      rw [jf_Room_insert, jf_Reading_size, Option.bind_some]
      by_cases e : j = n
      · subst e; rw [if_pos rfl, jf_Room_insert_b22]
      · rw [if_neg (p_ne e (by omega) (by omega)), Reading_has_in (by omega) hn, Option.bind_some, if_neg (by decide), jf_Room_insert_b22]
    by_cases hs : isSt v
    · by_cases hf : n < 300
      · obtain ⟨a', g1, g2, g3, g4, g5⟩ := Model_insert_loop (i := j) (n := n) (v := v) hf (n - j) N mk (by omega) (by omega)
        refine ⟨1, nI (n + 1), nI (min q j), 0, nI (n + 1), upd (va_cpy ck ck j (j + 1) (n - j)) j v, a', ?_, ?_, Or.inr ⟨rfl, n + 1, min q j, ⟨by omega, rfl, rfl, ?_⟩, rfl, Nat.min_le_left _ _, by omega, ?_⟩⟩
        · rw [e22, jf_Room_insert_b27, if_neg (by decide), cSt_y hs, Option.bind_some, if_neg (by decide), jf_Reading_isFull, if_pos (by rw [p_lit 300]; exact p_ylt hf (by omega)), Option.bind_some, if_pos rfl, Reading_put_ok (by omega) hf, Option.bind_some]
          dsimp only
          rw [readAnew_ok (by omega) (by omega), Option.bind_some]
        · rw [jf_Model_insert, if_neg (p_n0 (by omega)), if_neg (p_nlt (by omega) (by omega)), mSt, cSt_y hs, Option.bind_some, if_neg (by decide), if_neg (by rw [p_lit 300]; exact p_ne (by omega) (by omega) (by omega))]
          rw [show j + (n - j) = n by omega] at g1
          exact g1
        · intro i hi
          by_cases e : i = j
          · subst e; rw [p_upd_s, g2]; exact ⟨rfl, hs⟩
          · rw [p_upd_n e]
            rcases Nat.lt_or_ge i j with hij | hij
            · rw [g3 i hij, pk_cpy_out (by omega)]; exact hk i (by omega)
            · rw [g4 i (by omega) (by omega), pk_cpy_in (by omega) (by omega), show j + (i - (j + 1)) = i - 1 by omega]
              exact hk (i - 1) (by omega)
        · intro i hi
          rw [p_upd_n (by omega), pk_cpy_out (by omega)]
      · refine hno ?_ ?_
        · rw [e22, jf_Room_insert_b27, if_neg (by decide), cSt_y hs, Option.bind_some, if_neg (by decide), jf_Reading_isFull, if_neg (by rw [p_lit 300]; exact p_nlt (by omega) (by omega)), Option.bind_some, if_neg (by decide)]
        · rw [jf_Model_insert, if_neg (p_n0 (by omega)), if_neg (p_nlt (by omega) (by omega)), mSt, cSt_y hs, Option.bind_some, if_neg (by decide), if_pos (by rw [p_lit 300, p_eq (by omega) (by omega)]; omega)]
    · refine hno ?_ ?_
      · rw [e22, jf_Room_insert_b27, if_neg (by decide), cSt_n hs, Option.bind_some, if_pos rfl]
      · rw [jf_Model_insert, if_neg (p_n0 (by omega)), if_neg (p_nlt (by omega) (by omega)), mSt, cSt_n hs, Option.bind_some, if_pos rfl]
theorem Model_cut_loop {n : Nat} {v : Int32} (hn : n < 300) : ∀ (d f i : Nat) (a : Nat → Int32), i + d = n → d < f → ∃ a', jf_Model_cut_b33 f v (nI i) (nI n) a = some (v, nI n, a') ∧ (∀ j, j < i → a' j = a j) ∧ (∀ j, i ≤ j → j < n → a' j = a (j + 1)) := by
  intro d
  induction d with
  | zero =>
    intro f i a hd hf
    obtain ⟨f, rfl⟩ : ∃ g, f = g + 1 := ⟨f - 1, by omega⟩
    refine ⟨a, ?_, fun j hj => rfl, fun j h1 h2 => by omega⟩
    rw [jf_Model_cut_b33, if_pos (p_yle (by omega) (by omega))]
  | succ d ih =>
    intro f i a hd hf
    obtain ⟨f, rfl⟩ : ∃ g, f = g + 1 := ⟨f - 1, by omega⟩
    obtain ⟨a', h1, h2, h3⟩ := ih f (i + 1) (upd a i (a (i + 1))) (by omega) (by omega)
    refine ⟨a', ?_, fun j hj => ?_, fun j hj1 hj2 => ?_⟩
    · rw [jf_Model_cut_b33, if_neg (p_nle (by omega) (by omega)), nI_1, p_ga (by omega) (by omega), p_ga (by omega) (by omega), p_cl (by omega), p_cl (by omega)]
      exact h1
    · rw [h2 j (by omega), p_upd_n (by omega)]
    · by_cases e : j = i
      · subst e; rw [h2 _ (by omega), p_upd_s]
      · rw [h3 j (by omega) hj2, p_upd_n (by omega)]
theorem cut_both {N n q : Nat} {x cs rs st ms : Int32} {ck mk : Nat → Int32} (hN : 301 ≤ N) (hq : q ≤ n) (hrs : rs = nI q) (h : rcR n cs ck ms mk) : ∃ (r cs' rs' st' ms' : Int32) (ck' mk' : Nat → Int32), jf_Room_cut x cs rs st ck = some (r, cs', rs', st', ck') ∧ jf_Model_cut N x ms mk = some (r, ms', mk') ∧ rcP n q cs rs st ck cs' rs' st' ck' ms' mk' := by
  obtain ⟨hn, rfl, rfl, hk⟩ := id h
  subst hrs
  rcases p_ix x (n := n) (by omega) with h0 | ⟨h1, h0⟩ | ⟨j, hj, rfl⟩
  · refine ⟨-1, nI n, nI q, st, nI n, ck, mk, ?_, ?_, Or.inl ⟨rfl, rfl, rfl, rfl, h⟩⟩
    · rw [jf_Room_cut, Reading_has_neg h0, Option.bind_some, if_pos rfl]
    · rw [jf_Model_cut, if_pos h0]
  · refine ⟨-1, nI n, nI q, st, nI n, ck, mk, ?_, ?_, Or.inl ⟨rfl, rfl, rfl, rfl, h⟩⟩
    · rw [jf_Room_cut, Reading_has_big h1, Option.bind_some, if_pos rfl]
    · rw [jf_Model_cut, if_neg h0, if_neg (Int32.not_lt.mpr h1)]
  · obtain ⟨a', g1, g2, g3⟩ := Model_cut_loop (n := n - 1) (v := mk j) (by omega) (n - 1 - j) N j mk (by omega) (by omega)
    refine ⟨ck j, nI (n - 1), nI (min q j), 0, nI (n - 1), va_cpy ck ck (j + 1) j (n - j - 1), a', ?_, ?_, Or.inr ⟨rfl, n - 1, min q j, ⟨by omega, rfl, rfl, ?_⟩, rfl, Nat.min_le_left _ _, by omega, ?_⟩⟩
    · rw [jf_Room_cut, Reading_has_in hj hn, Option.bind_some, if_neg (by decide), jf_Reading_keysAt, if_neg (p_n0 (by omega)), if_neg (p_nle (by omega) (by omega)), p_ga (by omega) (by omega), Option.bind_some, jf_Reading_remove, if_neg (p_n0 (by omega)), if_pos (p_ylt hj (by omega)), nI_1, p_sub (by omega), p_s1 (by omega), p_s1 (by omega), p_gc (by omega) (by omega) (by omega) (by omega), Option.bind_some]
      dsimp only
      rw [readAnew_ok (by omega) (by omega), Option.bind_some, p_cl (by omega), p_cl (by omega), p_cl (by omega)]
    · rw [jf_Model_cut, if_neg (p_n0 (by omega)), if_pos (p_ylt hj (by omega)), p_ga (by omega) (by omega), p_cl (by omega), p_s1 (by omega), g1, (hk j hj).1]
    · intro i hi
      rcases Nat.lt_or_ge i j with hij | hij
      · rw [g2 i hij, pk_cpy_out (by omega)]; exact hk i (by omega)
      · rw [g3 i hij hi, pk_cpy_in hij (by omega), show j + 1 + (i - j) = i + 1 by omega]
        exact hk (i + 1) (by omega)
    · intro i hi
      rw [pk_cpy_out (by omega)]
theorem op_back {n q : Nat} {cs rs st ms : Int32} {ck mk : Nat → Int32} (hq : q ≤ n) (hrs : rs = nI q) (h : rcR n cs ck ms mk) : ∃ (r cs' rs' st' ms' : Int32) (ck' : Nat → Int32), jf_Room_back cs rs st ck = some (r, cs', rs', st', ck') ∧ jf_Model_back mk ms = some (r, ms') ∧ rcP n q cs rs st ck cs' rs' st' ck' ms' mk := by
  obtain ⟨hn, rfl, rfl, hk⟩ := id h
  subst hrs
  by_cases h0 : n = 0
  · subst h0
    refine ⟨-1, nI 0, nI q, st, nI 0, ck, ?_, ?_, Or.inl ⟨rfl, rfl, rfl, rfl, h⟩⟩
    · rw [jf_Room_back, jf_Reading_size, Option.bind_some, jf_Room_cut, Reading_has_neg (by decide), Option.bind_some, if_pos rfl]
      rfl
    · rw [jf_Model_back, if_pos nI_0]
  · refine ⟨ck (n - 1), nI (n - 1), nI (min q (n - 1)), 0, nI (n - 1), va_cpy ck ck (n - 1 + 1) (n - 1) (n - (n - 1) - 1), ?_, ?_, Or.inr ⟨rfl, n - 1, min q (n - 1), ⟨by omega, rfl, rfl, ?_⟩, rfl, Nat.min_le_left _ _, by omega, ?_⟩⟩
    · rw [jf_Room_back, jf_Reading_size, Option.bind_some, p_s1 (by omega), jf_Room_cut, Reading_has_in (by omega) hn, Option.bind_some, if_neg (by decide), jf_Reading_keysAt, if_neg (p_n0 (by omega)), if_neg (p_nle (by omega) (by omega)), p_ga (by omega) (by omega), Option.bind_some, jf_Reading_remove, if_neg (p_n0 (by omega)), if_pos (p_ylt (by omega) (by omega)), nI_1, p_sub (by omega), p_s1 (by omega), p_s1 (by omega), p_gc (by omega) (by omega) (by omega) (by omega), Option.bind_some]
      dsimp only
      rw [readAnew_ok (by omega) (by omega), Option.bind_some, p_cl (by omega), p_cl (by omega), p_cl (by omega)]
      rfl
    · rw [jf_Model_back, if_neg (by rw [p_lit 0]; exact p_ne h0 (by omega) (by omega)), p_s1 (by omega), p_ga (by omega) (by omega), p_cl (by omega), (hk (n - 1) (by omega)).1]
    · intro i hi
      rw [pk_cpy_out (by omega)]
      exact hk i (by omega)
    · intro i hi
      rw [pk_cpy_out (by omega)]
