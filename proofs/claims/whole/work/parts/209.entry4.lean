/-! promise 3 on both sides, whole -/
/-- the book behind a call: as it was, or another one, with all unread -/
def bkP (ne : Nat) (kd : Nat → Int32) (sc : Nat → Nat) (st : Nat → Int32) (ln : Nat → Nat) (tx : Nat → Int32) (cz rs se : Int32) (ck cl cx cc cs : Nat → Int32) (cz' rs' se' : Int32) (ck' cl' cx' cc' cs' : Nat → Int32) (mz' : Int32) (mk' mc' ms' ml' mx' : Nat → Int32) : Prop :=
  (cz' = cz ∧ rs' = rs ∧ se' = se ∧ ck' = ck ∧ cl' = cl ∧ cx' = cx ∧ cc' = cc ∧ cs' = cs ∧ bkC ne kd sc st ln tx mz' mk' mc' ms' ml' mx') ∨
  (se' = 0 ∧ rs' = nI 0 ∧ (∀ i, isB (cx' i)) ∧ ∃ (ne' : Nat) (kd' : Nat → Int32) (sc' : Nat → Nat) (st' : Nat → Int32) (ln' : Nat → Nat) (tx' : Nat → Int32), bkC ne' kd' sc' st' ln' tx' cz' ck' cc' cs' cl' cx' ∧ bkC ne' kd' sc' st' ln' tx' mz' mk' mc' ms' ml' mx' ∧ bkV ne' kd' sc' st' ln' tx')
set_option maxHeartbeats 4000000 in
theorem op_entry {N t q ne : Nat} {a b c d e k x ts mt0 rs se cz mz : Int32} {tb mb o tk : Nat → Int32} {kd : Nat → Int32} {sc : Nat → Nat} {st : Nat → Int32} {ln : Nat → Nat} {tx : Nat → Int32} {ck cl cx cc cs mk mc ms ml mx : Nat → Int32} (hN : 100 ≤ N) (hT : tpR t ts tb mt0 mb) (hrs : rs = nI q) (hq : q ≤ 300) (hC : bkC ne kd sc st ln tx cz ck cc cs cl cx) (hM : bkC ne kd sc st ln tx mz mk mc ms ml mx) (hV : bkV ne kd sc st ln tx) (hF : ∀ i, isB (cx i)) :
    ∃ (r cz' rs' ts' se' mt' mz' : Int32) (ck' cl' cx' cc' cs' o' mk' mc' ms' tk' ml' mx' : Nat → Int32) (t' : Nat), jf_Room_entry N a b c d e k x tb cz rs ts se ck cl cx cc cs o = some (r, cz', rs', ts', se', ck', cl', cx', cc', cs', o') ∧ jf_Model_entry N a b c d e k x mb mt0 mz mk mc ms tk ml mx = some (r, mt', mz', mk', mc', ms', tk', ml', mx') ∧ tpR t' ts' tb mt' mb ∧ bkP ne kd sc st ln tx cz rs se ck cl cx cc cs cz' rs' se' ck' cl' cx' cc' cs' mz' mk' mc' ms' ml' mx' := by
  obtain ⟨ht, rfl, rfl, hb⟩ := id hT
  obtain ⟨rfl, hC2⟩ := id hC
  obtain ⟨rfl, hM2⟩ := id hM
  have hne := hV.1
  generalize hlo : lo (outF o a b c d e) 5 0 0 = n
  have hlay := lay_ok (N := N) (a := a) (b := b) (c := c) (d := d) (e := e) (o := o) (by omega)
  rw [hlo] at hlay
  have hare := areStrokes_lo (a := a) (b := b) (c := c) (d := d) (e := e) (o := outF o a b c d e) (by simp [outF, upd]) (by simp [outF, upd]) (by simp [outF, upd]) (by simp [outF, upd]) (by simp [outF, upd])
  rw [hlo] at hare
  -- refused ahead of the bytes
  have hno : ∀ _ : jf_Room_entry N a b c d e k x tb (nI ne) rs (nI t) se ck cl cx cc cs o = some (-1, nI ne, rs, nI t, se, ck, cl, cx, cc, cs, outF o a b c d e), ∀ _ : jf_Model_entry N a b c d e k x mb (nI t) (nI ne) mk mc ms tk ml mx = some (-1, nI t, nI ne, mk, mc, ms, tk, ml, mx), _ := fun r1 r2 =>
    (⟨-1, nI ne, rs, nI t, se, nI t, nI ne, ck, cl, cx, cc, cs, outF o a b c d e, mk, mc, ms, tk, ml, mx, t, r1, r2, hT, Or.inl ⟨rfl, rfl, rfl, rfl, rfl, rfl, rfl, rfl, hM⟩⟩ : ∃ (r cz' rs' ts' se' mt' mz' : Int32) (ck' cl' cx' cc' cs' o' mk' mc' ms' tk' ml' mx' : Nat → Int32) (t' : Nat), jf_Room_entry N a b c d e k x tb (nI ne) rs (nI t) se ck cl cx cc cs o = some (r, cz', rs', ts', se', ck', cl', cx', cc', cs', o') ∧ jf_Model_entry N a b c d e k x mb (nI t) (nI ne) mk mc ms tk ml mx = some (r, mt', mz', mk', mc', ms', tk', ml', mx') ∧ tpR t' ts' tb mt' mb ∧ bkP ne kd sc st ln tx (nI ne) rs se ck cl cx cc cs cz' rs' se' ck' cl' cx' cc' cs' mz' mk' mc' ms' ml' mx')
  by_cases h0 : n = 0
  · subst h0
    refine hno ?_ ?_
    · rw [jf_Room_entry, hlay, Option.bind_some]
      dsimp only
      rw [if_pos nI_0]
    · rw [jf_Model_entry, hare, Option.bind_some, if_pos rfl, if_pos rfl]
  have hn0 : ¬ nI n = 0 := by
    obtain ⟨h1, -, -, -⟩ := lo_spec (o := outF o a b c d e) 5 0 0 (Nat.le_refl 0) (by omega) (by omega) (by omega)
    rw [hlo] at h1
    exact p_ne (b := 0) h0 (by omega) (by omega)
  obtain ⟨hn5, -, hst5, -⟩ := lo_spec (o := outF o a b c d e) 5 0 0 (Nat.le_refl 0) (by omega) (by omega) (by omega)
  rw [hlo] at hn5 hst5
  rcases takesLength_n k x with ⟨hl1, ⟨hk0, hk8, hl2⟩, c8, l, hc8, rfl, rfl, hln⟩ | ⟨hl1, hl2⟩
  rotate_left
  · refine hno ?_ ?_
    · rw [jf_Room_entry, hlay, Option.bind_some]
      dsimp only
      rw [if_neg hn0, hl1, Option.bind_some, if_pos rfl]
    · rw [jf_Model_entry, hare, Option.bind_some, if_neg h0, if_neg (by decide)]
      by_cases q0 : k < 0
      · rw [if_pos q0]
      · rw [if_neg q0]
        by_cases q8 : 8 < k
        · rw [if_pos q8]
        · rw [if_neg q8]
          rcases hl2 with q | q | q
          · exact absurd q q0
          · exact absurd q q8
          · rw [q, Option.bind_some, if_pos rfl]
  have hl16 := lnB_16 hln
  by_cases hlt : l ≤ t
  rotate_left
  · refine hno ?_ ?_
    · rw [jf_Room_entry, hlay, Option.bind_some]
      dsimp only
      rw [if_neg hn0, hl1, Option.bind_some, if_neg (by decide), jf_Tape_size, Option.bind_some, if_neg (p_nle (by omega) (by omega))]
    · rw [jf_Model_entry, hare, Option.bind_some, if_neg h0, if_neg (by decide), if_neg hk0, if_neg hk8, hl2, Option.bind_some, if_neg (by decide), if_neg (p_nle (by omega) (by omega))]
  -- the tape is used up
  obtain ⟨tk', ht1, ht2⟩ := takes_ok (N := N) (n := l) (tape := mb) (tk := tk) (tp := nI t) (by omega) (by omega) (fun i hi => by rw [(hb i (by omega)).1]; exact (hb i (by omega)).2)
  have htk : ∀ j, j < l → tk' j = tb j := fun j hj => by rw [ht2 j hj, (hb j (by omega)).1]
  have htkB : ∀ j, j < l → isB (tk' j) := fun j hj => by rw [htk j hj]; exact (hb j (by omega)).2
  have hcls : jf_Room_entry N a b c d e (nI c8) (nI l) tb (nI ne) rs (nI t) se ck cl cx cc cs o = (jf_Room_tapeFits N (nI c8) (nI l) (nI t) tb).bind (fun r47 => if r47 = 0 then jf_Room_entry_b83 N (nI c8) (nI l) tb (nI n) (nI ne) rs (nI t) se ck cl cx cc cs (outF o a b c d e) else (jf_Book_isFull (nI ne)).bind (fun r57 => if r57 = 0 then (jf_Book_hasOutline N (nI n) 5 (nI ne) (outF o a b c d e) cc cs).bind (fun r73 => if r73 = 0 then jf_Room_entry_b84 N (nI c8) (nI l) tb (nI n) 1 (nI ne) rs (nI t) se ck cl cx cc cs (outF o a b c d e) else jf_Room_entry_b83 N (nI c8) (nI l) tb (nI n) (nI ne) rs (nI t) se ck cl cx cc cs (outF o a b c d e)) else jf_Room_entry_b83 N (nI c8) (nI l) tb (nI n) (nI ne) rs (nI t) se ck cl cx cc cs (outF o a b c d e))) := by
    rw [jf_Room_entry, hlay, Option.bind_some]
    dsimp only
    rw [if_neg hn0, hl1, Option.bind_some, if_neg (by decide), jf_Tape_size, Option.bind_some, if_pos (p_yle hlt (by omega))]
  have h83 : jf_Room_entry_b83 N (nI c8) (nI l) tb (nI n) (nI ne) rs (nI t) se ck cl cx cc cs (outF o a b c d e) = some (-1, nI ne, rs, 0, se, ck, cl, cx, cc, cs, outF o a b c d e) := by
    rw [jf_Room_entry_b83, jf_Room_entry_b84, if_pos rfl, jf_Room_entry_b117, jf_Tape_wipe, Option.bind_some, if_pos rfl]
  have hmod : jf_Model_entry N a b c d e (nI c8) (nI l) mb (nI t) (nI ne) mk mc ms tk ml mx = jf_Model_entry_b55 N a b c d e (nI c8) (nI l) N 0 0 (nI ne) mk mc ms tk' ml mx := by
    rw [jf_Model_entry, hare, Option.bind_some, if_neg h0, if_neg (by decide), if_neg hk0, if_neg hk8, hl2, Option.bind_some, if_neg (by decide), if_pos (p_yle hlt (by omega)), ht1, Option.bind_some]
  have hfit := tapeFits_loop (k := nI c8) (n := l) (t := t) (b := tb) hlt ht l 0 N (by omega) (by omega)
  have h55 := b55_loop (N := N) (a := a) (b := b) (c := c) (d0 := d) (e := e) (k := nI c8) (n := l) (by omega) (tp := 0) (en := nI ne) (ak := mk) (asm := mc) (ass := ms) (tk := tk') (atm := ml) (atx := mx) l 0 N (by omega) (by omega)
  have hw := tape_wiped hT
  by_cases hbytes : ∀ j, j < l → bB (nI c8) (tb j &&& 255) = true
  rotate_left
  · have hex : ∃ j, j < l ∧ ¬ bB (nI c8) (tb j &&& 255) = true := Classical.byContradiction fun q => hbytes fun j hj => Classical.byContradiction fun q2 => q ⟨j, hj, q2⟩
    obtain ⟨j, hj, hjb⟩ := hex
    refine ⟨-1, nI ne, rs, 0, se, 0, nI ne, ck, cl, cx, cc, cs, outF o a b c d e, mk, mc, ms, tk', ml, mx, 0, ?_, ?_, hw, Or.inl ⟨rfl, rfl, rfl, rfl, rfl, rfl, rfl, rfl, hM⟩⟩
    · have hz : jf_Room_tapeFits N (nI c8) (nI l) (nI t) tb = some 0 := hfit.2 ⟨j, Nat.zero_le j, hj, hjb⟩
      rw [hcls, hz, Option.bind_some, if_pos rfl, h83]
    · rw [hmod, show jf_Model_entry_b55 N a b c d e (nI c8) (nI l) N 0 0 (nI ne) mk mc ms tk' ml mx = jf_Model_entry_b55 N a b c d e (nI c8) (nI l) N (nI 0) 0 (nI ne) mk mc ms tk' ml mx from rfl, h55.2 ⟨j, Nat.zero_le j, hj, by rw [htk j hj]; exact hjb⟩]
  have hm2 : jf_Model_entry N a b c d e (nI c8) (nI l) mb (nI t) (nI ne) mk mc ms tk ml mx = jf_Model_entry_b89 N a b c d e (nI c8) (nI l) 0 (nI ne) mk mc ms tk' ml mx := by
    rw [hmod, show jf_Model_entry_b55 N a b c d e (nI c8) (nI l) N 0 0 (nI ne) mk mc ms tk' ml mx = jf_Model_entry_b55 N a b c d e (nI c8) (nI l) N (nI 0) 0 (nI ne) mk mc ms tk' ml mx from rfl, h55.1 (fun j _ hj => by rw [htk j hj]; exact hbytes j hj)]
  have hc2 : jf_Room_tapeFits N (nI c8) (nI l) (nI t) tb = some 1 := hfit.1 (fun j _ hj => hbytes j hj)
  obtain ⟨h89a, h89b⟩ := b89_ok (k := nI c8) (l := l) (tp := 0) (N := N) hN hlo h0 hl16 htkB hM hV
  have hmtC : ∀ m, m < ne → (mt sc st (outF o a b c d e) 0 n m ↔ mt sc cs (outF o a b c d e) 0 n m) := fun m hm => mt_st (fun hs i hi => (hC2 m hm).2.2.2.1 i (by omega)) (fun i hi => rfl)
  have hout := hasOutline_loop (N := N) (n := n) (ne := ne) (sc := sc) (row := outF o a b c d e) (asc := cc) (st := cs) (by omega) hne (by omega) (fun j hj => ⟨(hC2 j hj).2.1, (hV.2.1 j hj).2.2.1⟩) ne 0 N (by omega) (by omega)
  by_cases h60 : ne = 60
  · obtain ⟨mc', ms', hmr, hMk⟩ := h89a (Or.inl h60)
    refine ⟨-1, nI ne, rs, 0, se, 0, nI ne, ck, cl, cx, cc, cs, outF o a b c d e, mk, mc', ms', tk', ml, mx, 0, ?_, by rw [hm2]; exact hmr, hw, Or.inl ⟨rfl, rfl, rfl, rfl, rfl, rfl, rfl, rfl, hMk⟩⟩
    rw [hcls, hc2, Option.bind_some, if_neg (by decide), jf_Book_isFull, if_neg (by rw [p_lit 60]; exact p_nlt (by omega) (by omega)), Option.bind_some, if_neg (by decide), h83]
  have hfull : jf_Book_isFull (nI ne) = some 0 := by
    rw [jf_Book_isFull, if_pos (by rw [p_lit 60]; exact p_ylt (by omega) (by omega))]
  by_cases hthere : ∃ m, m < ne ∧ mt sc st (outF o a b c d e) 0 n m
  · obtain ⟨mc', ms', hmr, hMk⟩ := h89a (Or.inr hthere)
    obtain ⟨m, hm, hmm⟩ := hthere
    refine ⟨-1, nI ne, rs, 0, se, 0, nI ne, ck, cl, cx, cc, cs, outF o a b c d e, mk, mc', ms', tk', ml, mx, 0, ?_, by rw [hm2]; exact hmr, hw, Or.inl ⟨rfl, rfl, rfl, rfl, rfl, rfl, rfl, rfl, hMk⟩⟩
    have hz : jf_Book_hasOutline N (nI n) 5 (nI ne) (outF o a b c d e) cc cs = some 1 := hout.1 ⟨m, Nat.zero_le m, hm, (hmtC m hm).mp hmm⟩
    rw [hcls, hc2, Option.bind_some, if_neg (by decide), hfull, Option.bind_some, if_pos rfl, hz, Option.bind_some, if_neg (by decide), h83]
  have hnone : ∀ m, m < ne → ¬ mt sc st (outF o a b c d e) 0 n m := fun m hm q => hthere ⟨m, hm, q⟩
  obtain ⟨mx', hmr, hmx1, hmx2⟩ := h89b (by omega) hnone
  obtain ⟨cx', cs', hcr, hcx1, hcx2, hcs1, hcs2⟩ := Book_add_ok (N := N) (x3 := nI c8) (n := n) (l := l) (t := t) (ne := ne) (row := outF o a b c d e) (tb := tb) (ak := ck) (al := cl) (atx := cx) (asc := cc) (ast := cs) (by omega) (by omega) hlt ht (by omega) hl16 (fun i hi => (hb i (by omega)).2)
  have hB' : ∀ i, isB (cx' i) := by
    intro i
    by_cases h1 : i < 16 * ne ∨ 16 * ne + l ≤ i
    · rw [hcx2 i h1]; exact hF i
    · have := hcx1 (i - 16 * ne) (by omega)
      rw [show 16 * ne + (i - 16 * ne) = i by omega] at this
      rw [this]
      exact (hb _ (by omega)).2
  have hlow : ∀ j, j < l → (tb j &&& 255) = tb j := fun j hj => isB_small (hb j (by omega)).2 (bB_small (hbytes j hj))
  refine ⟨nI ne, nI (ne + 1), nI (min q 0), 0, 0, 0, nI (ne + 1), upd ck ne (nI c8), upd cl ne (nI l), cx', upd cc ne (nI n), cs', outF o a b c d e, upd mk ne (nI c8), laySM mc ne a b c d e, laySS ms ne a b c d e, tk', upd ml ne (nI l), mx', 0, ?_, by rw [hm2]; exact hmr, hw, Or.inr ⟨rfl, by rw [Nat.min_zero], hB', ne + 1, fun j => if j = ne then nI c8 else kd j, fun j => if j = ne then n else sc j, fun j => if j < 5 * ne then st j else outF o a b c d e (j - 5 * ne), fun j => if j = ne then l else ln j, fun j => if j < 16 * ne then tx j else tb (j - 16 * ne), ⟨rfl, ?_⟩, ⟨rfl, ?_⟩, ?_⟩⟩
  · have hz : jf_Book_hasOutline N (nI n) 5 (nI ne) (outF o a b c d e) cc cs = some 0 := hout.2 (fun m _ hm q => hnone m hm ((hmtC m hm).mpr q))
    have hra : jf_Room_readAnew 0 (nI q) se = some (nI (min q 0), 0) := readAnew_ok (i := 0) (by omega) (by omega)
    rw [hcls, hc2, Option.bind_some, if_neg (by decide), hfull, Option.bind_some, if_pos rfl, hz, Option.bind_some, if_pos rfl, jf_Room_entry_b84, if_neg (by decide), hcr, Option.bind_some]
    dsimp only
    rw [hrs, hra, Option.bind_some]
    dsimp only
    rw [jf_Room_entry_b117, jf_Tape_wipe, Option.bind_some, if_neg (by decide), jf_Book_size, Option.bind_some, p_s1 (by omega), Nat.add_sub_cancel]
  · intro j hj
    dsimp only
    by_cases e1 : j = ne
    · subst e1
      refine ⟨by rw [p_upd_s, if_pos rfl], by rw [p_upd_s, if_pos rfl], by rw [p_upd_s, if_pos rfl], fun i hi => ?_, fun i hi => ?_⟩
      · rw [if_pos rfl] at hi
        rw [hcs1 i hi, if_neg (by omega), Nat.add_sub_cancel_left]
      · rw [if_pos rfl] at hi
        rw [hcx1 i hi, if_neg (by omega), Nat.add_sub_cancel_left]
    · obtain ⟨q1, q2, q3, q4, q5⟩ := hC2 j (by omega)
      have s5 := (hV.2.1 j (by omega)).2.2.1
      obtain ⟨c9, -, -, hl9⟩ := (hV.2.1 j (by omega)).1
      have s16 := lnB_16 hl9
      refine ⟨by rw [p_upd_n e1, if_neg e1]; exact q1, by rw [p_upd_n e1, if_neg e1]; exact q2, by rw [p_upd_n e1, if_neg e1]; exact q3, fun i hi => ?_, fun i hi => ?_⟩
      · rw [if_neg e1] at hi
        rw [hcs2 _ (by omega), if_pos (by omega)]
        exact q4 i hi
      · rw [if_neg e1] at hi
        rw [hcx2 _ (by omega), if_pos (by omega)]
        exact q5 i hi
  · intro j hj
    dsimp only
    by_cases e1 : j = ne
    · subst e1
      refine ⟨by rw [p_upd_s, if_pos rfl], by rw [laySM_n hlo h0, if_pos rfl], by rw [p_upd_s, if_pos rfl], fun i hi => ?_, fun i hi => ?_⟩
      · rw [if_pos rfl] at hi
        rw [laySS_i (o0 := o) (by omega), if_neg (by omega), Nat.add_sub_cancel_left]
      · rw [if_pos rfl] at hi
        rw [hmx1 i hi, htk i hi, if_neg (by omega), Nat.add_sub_cancel_left]
    · obtain ⟨q1, q2, q3, q4, q5⟩ := hM2 j (by omega)
      have s5 := (hV.2.1 j (by omega)).2.2.1
      obtain ⟨c9, -, -, hl9⟩ := (hV.2.1 j (by omega)).1
      have s16 := lnB_16 hl9
      refine ⟨by rw [p_upd_n e1, if_neg e1]; exact q1, by rw [laySM_o e1, if_neg e1]; exact q2, by rw [p_upd_n e1, if_neg e1]; exact q3, fun i hi => ?_, fun i hi => ?_⟩
      · rw [if_neg e1] at hi
        rw [laySS_o (by omega), if_pos (by omega)]
        exact q4 i hi
      · rw [if_neg e1] at hi
        rw [hmx2 _ (by omega), if_pos (by omega)]
        exact q5 i hi
  · refine ⟨by omega, fun j hj => ?_, fun j1 j2 hj1 hj2 hs hstk => ?_⟩
    · dsimp only
      by_cases e1 : j = ne
      · subst e1
        rw [if_pos rfl, if_pos rfl, if_pos rfl]
        refine ⟨⟨c8, hc8, rfl, hln⟩, by omega, by omega, fun i hi => ?_, fun i hi => ?_⟩
        · rw [if_neg (by omega), Nat.add_sub_cancel_left]
          exact stB_y.mp (hst5 i hi)
        · rw [if_neg (by omega), Nat.add_sub_cancel_left, ← hlow i hi]
          exact hbytes i hi
      · obtain ⟨v1, v2, v3, v4, v5⟩ := hV.2.1 j (by omega)
        obtain ⟨c9, -, -, hl9⟩ := id v1
        have s16 := lnB_16 hl9
        rw [if_neg e1, if_neg e1, if_neg e1]
        refine ⟨v1, v2, v3, fun i hi => ?_, fun i hi => ?_⟩
        · rw [if_pos (by omega)]; exact v4 i hi
        · rw [if_pos (by omega)]; exact v5 i hi
    · dsimp only at hs hstk
      by_cases e1 : j1 = ne <;> by_cases e2 : j2 = ne
      · omega
      · exfalso
        subst e1
        rw [if_pos rfl, if_neg e2] at hs
        have s5 := (hV.2.1 j2 (by omega)).2.2.1
        refine hnone j2 (by omega) ⟨hs.symm, fun i hi => ?_⟩
        have := hstk i (by rw [if_pos rfl]; exact hi)
        rw [if_neg (by omega), if_pos (by omega), Nat.add_sub_cancel_left] at this
        rw [← this, Nat.zero_add]
      · exfalso
        subst e2
        rw [if_pos rfl, if_neg e1] at hs
        have s5 := (hV.2.1 j1 (by omega)).2.2.1
        refine hnone j1 (by omega) ⟨hs, fun i hi => ?_⟩
        have := hstk i (by rw [if_neg e1]; omega)
        rw [if_pos (by omega), if_neg (by omega), Nat.add_sub_cancel_left] at this
        rw [this, Nat.zero_add]
      · rw [if_neg e1, if_neg e2] at hs
        have s51 := (hV.2.1 j1 (by omega)).2.2.1
        refine hV.2.2 j1 j2 (by omega) (by omega) hs (fun i hi => ?_)
        have := hstk i (by rw [if_neg e1]; exact hi)
        rw [if_pos (by omega), if_pos (by omega)] at this
        exact this
