/-! all translations are written, both sides -/
section AL
variable {N ne : Nat} {kd : Nat → Int32} {sc : Nat → Nat} {st : Nat → Int32} {ln : Nat → Nat} {tx row : Nat → Int32}
theorem stk_at {n c m : Nat} {e : Option Nat} {fa ea : Nat → Int32} (hs : stk fa ea (RD ne sc st row n)) (hm : m ∈ sts ne sc st row n) (hR : RD ne sc st row m = (c, e) :: RD ne sc st row c) : fa (RD ne sc st row c).length = nI c ∧ ea (RD ne sc st row c).length = oI e := by
  obtain ⟨l1, h1⟩ := sts_tail n m hm
  rw [h1] at hs
  have := stk_tail l1 hs
  rw [hR] at this
  exact ⟨this.1, this.2.1⟩
theorem bgR_ok {n c : Nat} {fa ea : Nat → Int32} (hn : n ≤ 300) (hs : stk fa ea (RD ne sc st row n)) (hc : c ∈ sts ne sc st row n) : bgR ne kd ea (RD ne sc st row c).length (bgl kd (RD ne sc st row c)) := by
  rcases Nat.eq_zero_or_pos c with h0 | h0
  · subst h0
    left
    rw [RD]
    exact ⟨rfl, rfl⟩
  · right
    obtain ⟨f, e, hf, hR⟩ := RD_top (ne := ne) (sc := sc) (st := st) (row := row) h0
    obtain ⟨-, h2⟩ := stk_at hs hc hR
    have hl := RD_len (ne := ne) (sc := sc) (st := st) (row := row) c
    have hcn := sts_le hc
    refine ⟨by rw [hR, List.length_cons]; omega, by omega, ?_⟩
    rw [hR, List.length_cons, Nat.add_sub_cancel, h2]
    cases e with
    | none => exact Or.inl ⟨rfl, rfl⟩
    | some k =>
      obtain ⟨m, rfl⟩ : ∃ m, c = m + 1 := ⟨c - 1, by omega⟩
      exact Or.inr ⟨k, RD_ent hR, rfl, rfl⟩
/-- the reference writes all -/
theorem mAll_loop {n : Nat} {rec ak al ax fa ea : Nat → Int32} (hN : 9000 ≤ N) (hV : bkV ne kd sc st ln tx) (hn : n ≤ 300) (hst : ∀ i, i < n → isSt (row i)) (hrec : ∀ i, i < n → rec i = row i) (hA : ∀ k, k < ne → ak k = kd k ∧ al k = nI (ln k) ∧ ∀ i, i < ln k → ax (16 * k + i) = tx (16 * k + i)) (hs : stk fa ea (RD ne sc st row n)) : ∀ (d c g : Nat) (cm lm : Int32) (ch la lb a : Nat → Int32), c ∈ sts ne sc st row n → (RD ne sc st row c).length + d = (RD ne sc st row n).length → d < g → ar a (txs kd ln tx row (RD ne sc st row c)).1 → lah ne kd sc st ln tx row la c → lbk ne kd sc st ln tx row lb c → ∃ (cm' lm' : Int32) (ch' la' lb' a' : Nat → Int32), jf_Model_all_b29 N ak rec al ax g (nI (RD ne sc st row c).length) (nI (RD ne sc st row n).length) (nI (txs kd ln tx row (RD ne sc st row c)).1.length) (txs kd ln tx row (RD ne sc st row c)).2.1 (txs kd ln tx row (RD ne sc st row c)).2.2 cm lm ch ea fa la lb a = some (nI (RD ne sc st row n).length, nI (txs kd ln tx row (RD ne sc st row n)).1.length, (txs kd ln tx row (RD ne sc st row n)).2.1, (txs kd ln tx row (RD ne sc st row n)).2.2, cm', lm', ch', ea, fa, la', lb', a') ∧ ar a' (txs kd ln tx row (RD ne sc st row n)).1 ∧ lah ne kd sc st ln tx row la' n ∧ lbk ne kd sc st ln tx row lb' n := by
  have hT := RD_len (ne := ne) (sc := sc) (st := st) (row := row) n
  intro d
  induction d with
  | zero =>
    intro c g cm lm ch la lb a hc hd hg ha h1 h2
    obtain ⟨g, rfl⟩ : ∃ y, g = y + 1 := ⟨g - 1, by omega⟩
    have hcn : c = n := by
      by_cases q : c = n
      · exact q
      · have := (sts_len hc).2 q
        omega
    subst hcn
    refine ⟨cm, lm, ch, la, lb, a, ?_, ha, h1, h2⟩
    rw [jf_Model_all_b29, if_pos (p_yle (Nat.le_refl _) (by omega))]
  | succ d ih =>
    intro c g cm lm ch la lb a hc hd hg ha h1 h2
    obtain ⟨g, rfl⟩ : ∃ y, g = y + 1 := ⟨g - 1, by omega⟩
    have hcn : c ≠ n := by
      intro q
      subst q
      omega
    obtain ⟨m, e, hm, hR, hcm, hmn⟩ := sts_next n c hc hcn
    obtain ⟨f1, f2⟩ := stk_at hs hm hR
    have hml : (RD ne sc st row m).length = (RD ne sc st row c).length + 1 := by rw [hR, List.length_cons]
    obtain ⟨t7, tl⟩ := txs_ok hV hn hst c (by omega)
    have key : ∀ (cm lm : Int32) (ch a2 : Nat → Int32), ar a2 (txs kd ln tx row (RD ne sc st row m)).1 → ∃ (cm' lm' : Int32) (ch' la' lb' a' : Nat → Int32), jf_Model_all_b86 (jf_Model_all_b29 N ak rec al ax g) (nI (RD ne sc st row c).length) (nI (RD ne sc st row n).length) (nI (txs kd ln tx row (RD ne sc st row m)).1.length) (txs kd ln tx row (RD ne sc st row m)).2.1 (txs kd ln tx row (RD ne sc st row m)).2.2 cm lm ch ea fa (upd la (RD ne sc st row c).length (nI (txs kd ln tx row (RD ne sc st row c)).1.length)) lb a2 = some (nI (RD ne sc st row n).length, nI (txs kd ln tx row (RD ne sc st row n)).1.length, (txs kd ln tx row (RD ne sc st row n)).2.1, (txs kd ln tx row (RD ne sc st row n)).2.2, cm', lm', ch', ea, fa, la', lb', a') ∧ ar a' (txs kd ln tx row (RD ne sc st row n)).1 ∧ lah ne kd sc st ln tx row la' n ∧ lbk ne kd sc st ln tx row lb' n := by
      intro cm lm ch a2 ha2
      rw [jf_Model_all_b86, p_ga (by omega) (by omega), p_cl (by omega), nI_1, ← hml]
      exact ih m g cm lm ch _ _ a2 hm (by omega) (by omega) ha2 (lah_next h1 hR) (lbk_next h2 hR)
    rw [jf_Model_all_b29, if_neg (p_nle (by omega) (by omega)), p_ga (by omega) (by omega), p_ga (by omega) (by omega), p_cl (by omega), f2]
    cases e with
    | none =>
      rw [if_pos (show oI none = -1 from rfl), p_ga (by omega) (by omega), f1, p_ga (by omega) (by omega), p_cl (by omega), hrec c (by omega)]
      obtain ⟨ch', a2, e1, e2⟩ := mRaw_ok (N := N) (cm := cm) (lk := (txs kd ln tx row (RD ne sc st row c)).2.2) (ca := ch) (by omega) (hst c (by omega)) ha (by omega)
      rw [e1, Option.bind_some]
      dsimp only
      have hx : txs kd ln tx row (RD ne sc st row m) = (blkL (txs kd ln tx row (RD ne sc st row c)).1 (txs kd ln tx row (RD ne sc st row c)).2.2 ++ chd (row c), (txs kd ln tx row (RD ne sc st row c)).2.1, 0) := by rw [hR, txs]
      have := key (nI (chd (row c)).length) lm ch' a2 (by rw [hx]; exact e2)
      rw [hx] at this
      exact this
    | some k =>
      obtain ⟨m', rfl⟩ : ∃ m', m = m' + 1 := ⟨m - 1, by omega⟩
      have hk := RD_ent hR
      have hne := hV.1
      rw [show oI (some k) = nI k from rfl, if_neg (show ¬ nI k = -1 from fun q => cast (p_m1 (n := k) (by omega)) q), p_ga (by omega) (by omega)]
      obtain ⟨L, a2, e1, e2⟩ := mOne_ok (N := N) (sh := (txs kd ln tx row (RD ne sc st row c)).2.1) (lk := (txs kd ln tx row (RD ne sc st row c)).2.2) (lm := lm) hN hV hk hA (bgR_ok hn hs hc) ha t7 (by omega)
      rw [e1, Option.bind_some]
      dsimp only
      have hx : txs kd ln tx row (RD ne sc st row (m' + 1)) = wrE kd ln tx k (bgl kd (RD ne sc st row c)) (txs kd ln tx row (RD ne sc st row c)).1 (txs kd ln tx row (RD ne sc st row c)).2.1 (txs kd ln tx row (RD ne sc st row c)).2.2 := by rw [hR, txs]
      have := key cm L ch a2 (by rw [hx]; exact e2)
      rw [hx] at this
      exact this
theorem mAll_ok {n : Nat} {tr le sh lk cm lm : Int32} {rec ak asc ast al ax ch ea fa la lb a : Nat → Int32} (hN : 9000 ≤ N) (hV : bkV ne kd sc st ln tx) (hn : n ≤ 300) (hst : ∀ i, i < n → isSt (row i)) (hrec : ∀ i, i < n → rec i = row i) (hA : bkC ne kd sc st ln tx (nI ne) ak asc ast al ax) : ∃ (cm' lm' : Int32) (ch' ea' fa' la' lb' a' : Nat → Int32), jf_Model_all N (nI ne) (nI n) ak rec asc ast al ax tr le sh lk cm lm ch ea fa la lb a = some (nI (RD ne sc st row n).length, nI (txs kd ln tx row (RD ne sc st row n)).1.length, (txs kd ln tx row (RD ne sc st row n)).2.1, (txs kd ln tx row (RD ne sc st row n)).2.2, cm', lm', ch', ea', fa', la', lb', a') ∧ ar a' (txs kd ln tx row (RD ne sc st row n)).1 ∧ lah ne kd sc st ln tx row la' n ∧ lbk ne kd sc st ln tx row lb' n ∧ stk fa' ea' (RD ne sc st row n) ∧ fa' (RD ne sc st row n).length = nI n := by
  obtain ⟨ea', fa', r1, r2, r3⟩ := reads_record (N := N) (ne := ne) (sc := sc) (st := st) (row := rec) (sm := asc) (ss := ast) (n := n) (tr := tr) (ea := ea) (fa := fa) hV.1 (by omega) hV.2.2 (fun k hk => by
    obtain ⟨-, q2, -, q4, -⟩ := hA.2 k hk
    obtain ⟨-, v2, v3, -, -⟩ := hV.2.1 k hk
    exact ⟨q2, v3, q4⟩) hn
  have hRD : RD ne sc st rec n = RD ne sc st row n := RD_cong hV.2.2 n hrec
  rw [hRD] at r1 r2 r3
  have hT := RD_len (ne := ne) (sc := sc) (st := st) (row := row) n
  obtain ⟨cm', lm', ch', la', lb', a', h1, h2, h3, h4⟩ := mAll_loop (N := N) (row := row) (rec := rec) (ak := ak) (al := al) (ax := ax) (fa := fa') (ea := ea') hN hV hn hst hrec (fun k hk => by
    obtain ⟨q1, q2, q3, q4, q5⟩ := hA.2 k hk
    exact ⟨q1, q3, q5⟩) r2 (RD ne sc st row n).length 0 N cm lm ch la lb a (sts_zero n) (by rw [RD]; simp) (by omega) (by rw [RD, txs]; exact ar_nil) lah_0 lbk_0
  refine ⟨cm', lm', ch', ea', fa', la', lb', a', ?_, h2, h3, h4, r2, r3⟩
  rw [jf_Model_all, r1, Option.bind_some]
  dsimp only
  rw [show RD ne sc st row 0 = [] from by rw [RD], txs] at h1
  exact h1
end AL
