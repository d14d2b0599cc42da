/-! the class's transcript is settled -/
section SE
variable {N ne : Nat} {kd : Nat → Int32} {sc : Nat → Nat} {st : Nat → Int32} {ln : Nat → Nat} {tx row : Nat → Int32}
theorem lastOf_at {n c m : Nat} {e : Option Nat} {la : Nat → Int32} (hn : n ≤ 300) (hla : tlk ne sc st row la n) (hm : m ∈ sts ne sc st row n) (hR : RD ne sc st row m = (c, e) :: RD ne sc st row c) : jf_Transcript_lastOf (nI (RD ne sc st row c).length) (nI (RD ne sc st row n).length) la = some (nI (m - 1)) := by
  have hT := RD_len (ne := ne) (sc := sc) (st := st) (row := row) n
  have hl := (sts_len hm).1
  rw [hR, List.length_cons] at hl
  rw [jf_Transcript_lastOf, if_neg (p_n0 (by omega)), if_neg (p_nle (by omega) (by omega)), p_ga (by omega) (by omega), p_cl (by omega), hla m c e hm hR]
theorem rdI_at {n c m : Nat} {e : Option Nat} {fa ea : Nat → Int32} (hI : rdI ne sc st row n fa ea) (hmn : m ≤ n) (hm0 : 0 < m) (hR : RD ne sc st row m = (c, e) :: RD ne sc st row c) : fa (m - 1) = nI c ∧ ea (m - 1) = oI e := by
  obtain ⟨f, e', h1, h2, h3, h4⟩ := hI (m - 1) (by omega)
  rw [show m - 1 + 1 = m by omega, hR] at h2
  injection h2 with q1 q2
  injection q1 with q3 q4
  rw [h3, h4, q3, q4]
  exact ⟨rfl, rfl⟩
theorem entryOf_at {n c m : Nat} {e : Option Nat} {la fa ea : Nat → Int32} (hn : n ≤ 300) (hla : tlk ne sc st row la n) (hI : rdI ne sc st row n fa ea) (hm : m ∈ sts ne sc st row n) (hcm : c < m) (hR : RD ne sc st row m = (c, e) :: RD ne sc st row c) : jf_Transcript_entryOf (nI (RD ne sc st row c).length) (nI (RD ne sc st row n).length) (nI n) la ea = some (oI e) := by
  have hmn := sts_le hm
  rw [jf_Transcript_entryOf, lastOf_at hn hla hm hR, Option.bind_some, jf_Reading_entryAt, if_neg (p_n0 (by omega)), if_neg (p_nle (by omega) (by omega)), p_ga (by omega) (by omega), p_cl (by omega), (rdI_at hI hmn (by omega) hR).2, Option.bind_some]
theorem cOne_ok {n c m : Nat} {e : Option Nat} {rw0 cz L0 V0 : Int32} {ak al ax la fa ea ch a : Nat → Int32} (hN : 9000 ≤ N) (hV : bkV ne kd sc st ln tx) (hn : n ≤ 300) (hst : ∀ i, i < n → isSt (row i)) (hA : ∀ k, k < ne → ak k = kd k ∧ al k = nI (ln k) ∧ ∀ i, i < ln k → ax (16 * k + i) = tx (16 * k + i)) (hla : tlk ne sc st row la n) (hI : rdI ne sc st row n fa ea) (hc : c ∈ sts ne sc st row n) (hm : m ∈ sts ne sc st row n) (hcm : c < m) (hR : RD ne sc st row m = (c, e) :: RD ne sc st row c) (ha : ar a (txs kd ln tx row (RD ne sc st row c)).1) : ∃ (cz' L V : Int32) (ch' a' : Nat → Int32), jf_Transcript_writeTranslation N (nI (RD ne sc st row c).length) (nI (RD ne sc st row n).length) (nI ne) (nI n) ak al ax la ea row (nI (rws (RD ne sc st row c))) cz (nI (txs kd ln tx row (RD ne sc st row c)).1.length) (txs kd ln tx row (RD ne sc st row c)).2.1 (txs kd ln tx row (RD ne sc st row c)).2.2 L0 V0 ch a = some (nI (rws (RD ne sc st row m)), cz', nI (txs kd ln tx row (RD ne sc st row m)).1.length, (txs kd ln tx row (RD ne sc st row m)).2.1, (txs kd ln tx row (RD ne sc st row m)).2.2, L, V, ch', a') ∧ ar a' (txs kd ln tx row (RD ne sc st row m)).1 := by
  have hT := RD_len (ne := ne) (sc := sc) (st := st) (row := row) n
  have hmn := sts_le hm
  have hlt := (sts_len hm).1
  rw [hR, List.length_cons] at hlt
  obtain ⟨t7, tl⟩ := txs_ok hV hn hst c (by omega)
  have hne := hV.1
  rw [jf_Transcript_writeTranslation, entryOf_at hn hla hI hm hcm hR, Option.bind_some]
  cases e with
  | none =>
    have hcm1 : c = m - 1 := by
      obtain ⟨m', rfl⟩ : ∃ m', m = m' + 1 := ⟨m - 1, by omega⟩
      have := RD_raw hR
      omega
    obtain ⟨ch', c1, c2⟩ := spell_ok (N := N) (z := cz) (a := ch) (by omega) (hst c (by omega))
    obtain ⟨-, hlen⟩ := chd_ok (hst c (by omega))
    obtain ⟨a', w1, w2⟩ := writeRaw_ok (N := N) (nb := 6900) (lk := (txs kd ln tx row (RD ne sc st row c)).2.2) (by omega) (by omega) c2 hlen (chd_B _) ha (by omega)
    rw [if_pos (show oI none = -1 from rfl), lastOf_at hn hla hm hR, Option.bind_some, jf_Reading_keysAt, if_neg (p_n0 (by omega)), if_neg (p_nle (by omega) (by omega)), p_ga (by omega) (by omega), p_cl (by omega), Option.bind_some, ← hcm1, c1, Option.bind_some]
    dsimp only
    rw [w1, Option.bind_some]
    dsimp only
    rw [hR, txs, rws, nI_1]
    exact ⟨_, _, _, _, a', rfl, w2⟩
  | some k =>
    obtain ⟨m', rfl⟩ : ∃ m', m = m' + 1 := ⟨m - 1, by omega⟩
    have hk := RD_ent hR
    obtain ⟨L, V, a', w1, w2⟩ := writeEntry_ok (N := N) (nb := 6900) (bg := bgl kd (RD ne sc st row c)) (sh := (txs kd ln tx row (RD ne sc st row c)).2.1) (lk := (txs kd ln tx row (RD ne sc st row c)).2.2) (L0 := L0) (V0 := V0) hN hV hk (hA k hk) (by omega) ha t7 (by omega)
    have e82 : ∀ z : Int32, z = (if bgl kd (RD ne sc st row c) = true then 1 else 0) → ∃ (cz' L V : Int32) (ch' a' : Nat → Int32), jf_Transcript_writeTranslation_b82 N (nI ne) ak al ax (nI k) z (nI (rws (RD ne sc st row c))) cz (nI (txs kd ln tx row (RD ne sc st row c)).1.length) (txs kd ln tx row (RD ne sc st row c)).2.1 (txs kd ln tx row (RD ne sc st row c)).2.2 L0 V0 ch a = some (nI (rws (RD ne sc st row (m' + 1))), cz', nI (txs kd ln tx row (RD ne sc st row (m' + 1))).1.length, (txs kd ln tx row (RD ne sc st row (m' + 1))).2.1, (txs kd ln tx row (RD ne sc st row (m' + 1))).2.2, L, V, ch', a') ∧ ar a' (txs kd ln tx row (RD ne sc st row (m' + 1))).1 := by
      intro z hz
      rw [jf_Transcript_writeTranslation_b82, hz, w1, Option.bind_some, hR, txs, rws]
      exact ⟨_, _, _, _, a', rfl, w2⟩
    rw [show oI (some k) = nI k from rfl, if_neg (show ¬ nI k = -1 from fun q => cast (p_m1 (n := k) (by omega)) q)]
    rcases Nat.eq_zero_or_pos c with h0 | h0
    · subst h0
      have hz : RD ne sc st row 0 = [] := by rw [RD]
      have he : jf_Transcript_entryOf (nI (RD ne sc st row 0).length - 1) (nI (RD ne sc st row n).length) (nI n) la ea = some (-1) := by
        rw [hz, show nI ([] : List (Nat × Option Nat)).length - 1 = -1 from by decide, jf_Transcript_entryOf, jf_Transcript_lastOf, if_pos (by decide), Option.bind_some, jf_Reading_entryAt, if_pos (by decide), Option.bind_some]
      rw [he, Option.bind_some, Book_kindOf_m1, Option.bind_some, if_neg (by decide)]
      exact e82 0 (by rw [hz]; rfl)
    · obtain ⟨f, e', hf, hR'⟩ := RD_top (ne := ne) (sc := sc) (st := st) (row := row) h0
      have hlen : nI (RD ne sc st row c).length - 1 = nI (RD ne sc st row f).length := by
        rw [hR', List.length_cons, p_s1 (by omega), Nat.add_sub_cancel]
      rw [hlen, entryOf_at hn hla hI hc hf hR', Option.bind_some]
      cases e' with
      | none =>
        rw [show oI none = -1 from rfl, Book_kindOf_m1, Option.bind_some, if_neg (by decide)]
        exact e82 0 (by rw [hR']; rfl)
      | some j =>
        obtain ⟨c', rfl⟩ : ∃ c', c = c' + 1 := ⟨c - 1, by omega⟩
        have hj := RD_ent hR'
        rw [show oI (some j) = nI j from rfl, Book_kindOf_in hj hne, Option.bind_some, (hA j hj).1]
        by_cases h5 : kd j = 5
        · rw [if_pos h5]
          exact e82 1 (by rw [hR']; unfold bgl; rw [if_pos (decide_eq_true h5)])
        · rw [if_neg h5]
          exact e82 0 (by rw [hR']; unfold bgl; rw [if_neg (fun q => h5 (of_decide_eq_true q))])
theorem cAll_loop {n : Nat} {se rs : Int32} {ak al ax la ow fa ea : Nat → Int32} (hN : 9000 ≤ N) (hV : bkV ne kd sc st ln tx) (hn : n ≤ 300) (hst : ∀ i, i < n → isSt (row i)) (hA : ∀ k, k < ne → ak k = kd k ∧ al k = nI (ln k) ∧ ∀ i, i < ln k → ax (16 * k + i) = tx (16 * k + i)) (hla : tlk ne sc st row la n) (hI : rdI ne sc st row n fa ea) : ∀ (d c g : Nat) (cz L0 V0 : Int32) (beh ch a : Nat → Int32), c ∈ sts ne sc st row n → (RD ne sc st row c).length + d = (RD ne sc st row n).length → d < g → ar a (txs kd ln tx row (RD ne sc st row c)).1 → lbk ne kd sc st ln tx row beh c → ∃ (cz' L V : Int32) (beh' ch' a' : Nat → Int32), jf_Transcript_settle_b33 N (nI ne) (nI n) ak al ax row g (nI (RD ne sc st row c).length) (nI (RD ne sc st row n).length) (nI (rws (RD ne sc st row c))) se cz (nI (txs kd ln tx row (RD ne sc st row c)).1.length) (txs kd ln tx row (RD ne sc st row c)).2.1 (txs kd ln tx row (RD ne sc st row c)).2.2 L0 V0 rs beh ch la ow a ea fa = some (nI (RD ne sc st row n).length, nI (rws (RD ne sc st row n)), 1, cz', nI (txs kd ln tx row (RD ne sc st row n)).1.length, (txs kd ln tx row (RD ne sc st row n)).2.1, (txs kd ln tx row (RD ne sc st row n)).2.2, L, V, rs, beh', ch', la, ow, a', ea, fa) ∧ ar a' (txs kd ln tx row (RD ne sc st row n)).1 ∧ lbk ne kd sc st ln tx row beh' n := by
  have hT := RD_len (ne := ne) (sc := sc) (st := st) (row := row) n
  intro d
  induction d with
  | zero =>
    intro c g cz L0 V0 beh ch a hc hd hg ha h2
    obtain ⟨g, rfl⟩ : ∃ y, g = y + 1 := ⟨g - 1, by omega⟩
    have hcn : c = n := by
      by_cases q : c = n
      · exact q
      · have := (sts_len hc).2 q
        omega
    subst hcn
    refine ⟨cz, L0, V0, beh, ch, a, ?_, ha, h2⟩
    rw [jf_Transcript_settle_b33, if_pos (p_yle (Nat.le_refl _) (by omega)), jf_Transcript_settle_b65]
  | succ d ih =>
    intro c g cz L0 V0 beh ch a hc hd hg ha h2
    obtain ⟨g, rfl⟩ : ∃ y, g = y + 1 := ⟨g - 1, by omega⟩
    have hcn : c ≠ n := by
      intro q
      subst q
      omega
    obtain ⟨m, e, hm, hR, hcm, hmn⟩ := sts_next n c hc hcn
    have hml : (RD ne sc st row m).length = (RD ne sc st row c).length + 1 := by rw [hR, List.length_cons]
    obtain ⟨cz', L, V, ch', a', e1, e2⟩ := cOne_ok (N := N) (rw0 := 0) (cz := cz) (L0 := L0) (V0 := V0) (ch := ch) hN hV hn hst hA hla hI hc hm hcm hR ha
    rw [jf_Transcript_settle_b33, if_neg (p_nle (by omega) (by omega)), e1, Option.bind_some]
    dsimp only
    rw [jf_Page_size, Option.bind_some, p_ga (by omega) (by omega), p_cl (by omega), nI_1, ← hml]
    exact ih m g cz' L V _ ch' a' hm (by omega) (by omega) e2 (lbk_next h2 hR)
/-- the transcript stands as the record is -/
def trS (ne : Nat) (kd : Nat → Int32) (sc : Nat → Nat) (st : Nat → Int32) (ln : Nat → Nat) (tx row : Nat → Int32) (n : Nat) (sz rw pz ps pl rs : Int32) (beh la ow pb ea fa : Nat → Int32) : Prop :=
  sz = nI (RD ne sc st row n).length ∧ rw = nI (rws (RD ne sc st row n)) ∧ pz = nI (txs kd ln tx row (RD ne sc st row n)).1.length ∧ ps = (txs kd ln tx row (RD ne sc st row n)).2.1 ∧ pl = (txs kd ln tx row (RD ne sc st row n)).2.2 ∧ rs = nI n ∧ lbk ne kd sc st ln tx row beh n ∧ tlk ne sc st row la n ∧ own ne sc st row ow n ∧ ar pb (txs kd ln tx row (RD ne sc st row n)).1 ∧ rdI ne sc st row n fa ea
/-- the transcript: settled, or to be made anew from q strokes that are read -/
def trI (ne : Nat) (kd : Nat → Int32) (sc : Nat → Nat) (st : Nat → Int32) (ln : Nat → Nat) (tx row : Nat → Int32) (n q : Nat) (sz rw se pz ps pl rs : Int32) (beh la ow pb ea fa : Nat → Int32) : Prop :=
  rs = nI q ∧ q ≤ n ∧ rdI ne sc st row q fa ea ∧ (se = 0 ∨ (se = 1 ∧ trS ne kd sc st ln tx row n sz rw pz ps pl rs beh la ow pb ea fa))
theorem settle_ok {n q : Nat} {sz rw se cz pz ps pl L0 V0 rs : Int32} {ak al ax asc ast beh ch la ow pb ea fa : Nat → Int32} (hN : 9000 ≤ N) (hV : bkV ne kd sc st ln tx) (hn : n ≤ 300) (hst : ∀ i, i < n → isSt (row i)) (hA : bkC ne kd sc st ln tx (nI ne) ak asc ast al ax) (hI : trI ne kd sc st ln tx row n q sz rw se pz ps pl rs beh la ow pb ea fa) : ∃ (cz' L V : Int32) (sz' rw' pz' ps' pl' rs' : Int32) (beh' ch' la' ow' pb' ea' fa' : Nat → Int32), jf_Transcript_settle N (nI ne) (nI n) ak al ax asc ast row sz rw se cz pz ps pl L0 V0 rs beh ch la ow pb ea fa = some (sz', rw', 1, cz', pz', ps', pl', L, V, rs', beh', ch', la', ow', pb', ea', fa') ∧ trS ne kd sc st ln tx row n sz' rw' pz' ps' pl' rs' beh' la' ow' pb' ea' fa' := by
  obtain ⟨i1, i2, i3, i4⟩ := hI
  rcases i4 with h0 | ⟨h1, h2⟩
  · obtain ⟨ea', fa', r1, r2⟩ := read_ok (N := N) (ne := ne) (sc := sc) (st := st) (row := row) (n := n) (asc := asc) (ast := ast) (by omega) hV.1 hV.2.2 hn i2 (fun k hk => by
      obtain ⟨-, q2, -, q4, -⟩ := hA.2 k hk
      obtain ⟨-, v2, v3, -, -⟩ := hV.2.1 k hk
      exact ⟨q2, v2, v3, q4⟩) i3
    obtain ⟨la', ow', f1, f2, f3⟩ := findLasts_ok (N := N) (z := sz) (la := la) (ow := ow) (by omega) hn r2
    have hT := RD_len (ne := ne) (sc := sc) (st := st) (row := row) n
    obtain ⟨cz', L, V, beh', ch', a', w1, w2, w3⟩ := cAll_loop (N := N) (se := 0) (rs := nI n) (ak := ak) (al := al) (ax := ax) (la := la') (ow := ow') (fa := fa') (ea := ea') hN hV hn hst (fun k hk => by
      obtain ⟨q1, q2, q3, q4, q5⟩ := hA.2 k hk
      exact ⟨q1, q3, q5⟩) f2 r2 (RD ne sc st row n).length 0 N cz L0 V0 beh ch pb (sts_zero n) (by rw [RD]; simp) (by omega) (by rw [RD, txs]; exact ar_nil) lbk_0
    refine ⟨cz', L, V, _, _, _, _, _, _, beh', ch', la', ow', a', ea', fa', ?_, rfl, rfl, rfl, rfl, rfl, rfl, w3, f2, f3, w2, r2⟩
    rw [jf_Transcript_settle, if_pos h0, i1, r1, Option.bind_some]
    dsimp only
    rw [f1, Option.bind_some]
    dsimp only
    rw [jf_Page_empty, Option.bind_some]
    dsimp only
    rw [show RD ne sc st row 0 = [] from by rw [RD], txs, rws] at w1
    rw [h0]
    exact w1
  · refine ⟨cz, L0, V0, sz, rw, pz, ps, pl, rs, beh, ch, la, ow, pb, ea, fa, ?_, h2⟩
    rw [jf_Transcript_settle, h1, if_neg (by decide)]
end SE
