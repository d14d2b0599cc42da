/-! plan, planned, clear: both sides -/
def plR (le ls lc : Int32) (la : Nat → Int32) (pm ps ic ip : Int32) (pl : Nat → Int32) : Prop := pm = le ∧ ps = ls ∧ ((ip = 0 ∧ lc = -1) ∨ (ip = 1 ∧ ic = lc)) ∧ ∃ m : Nat, m ≤ 60 ∧ le = nI m ∧ ∀ i, i < m → pl i = la i
section BR
variable {ne : Nat} {kd : Nat → Int32} {sc : Nat → Nat} {st : Nat → Int32} {ln : Nat → Nat} {tx : Nat → Int32}
theorem bkL_of (hV : bkV ne kd sc st ln tx) {inn lst : Int32} (h : (inn = 1 ∧ lst = 0) ∨ (inn = 5 ∧ lst = 5)) : bkL ne kd sc ln inn lst := by
  intro k hk
  obtain ⟨-, -, s2, -⟩ := hV.2.1 k hk
  refine ⟨s2, bk_len hV hk, fun q => ?_⟩
  have q' : kd k = 0 ∨ kd k = 1 ∨ kd k = 5 := by
    rcases h with ⟨rfl, rfl⟩ | ⟨rfl, rfl⟩
    · rcases q with q | q
      · exact Or.inr (Or.inl q)
      · exact Or.inl q
    · rcases q with q | q
      · exact Or.inr (Or.inr q)
      · exact Or.inr (Or.inr q)
  rcases bk_kind hV hk with r | r | r | r | r | r | r | r | r
  · exact r.2
  · exact r.2
  · exact r.2
  · omega
  · omega
  · exact r.2
  · rw [r.1] at q'; exact absurd q' (by decide)
  · rw [r.1] at q'; exact absurd q' (by decide)
  · rw [r.1] at q'; exact absurd q' (by decide)
theorem bkJ_of (hV : bkV ne kd sc st ln tx) : bkJ ne kd sc ln tx := by
  intro k hk
  obtain ⟨-, -, s2, -⟩ := hV.2.1 k hk
  refine ⟨s2, bk_len hV hk, fun q => ⟨?_, fun i hi => ?_⟩⟩
  · rcases bk_kind hV hk with r | r | r | r | r | r | r | r | r
    · exact r.2
    · exact r.2
    · exact r.2
    · omega
    · omega
    · exact r.2
    · rw [r.1] at q; exact absurd q (by decide)
    · rw [r.1] at q; exact absurd q (by decide)
    · rw [r.1] at q; exact absurd q (by decide)
  · refine bk_sm hV hk ?_ ?_ hi
    · intro z; rw [z] at q; exact absurd q (by decide)
    · intro z; rw [z] at q; exact absurd q (by decide)
theorem rwC_of {z : Int32} {ak asc ast al ax : Nat → Int32} (hC : bkC ne kd sc st ln tx z ak asc ast al ax) : rwC ne kd sc ln tx ak asc al ax := fun k hk => ⟨(hC.2 k hk).1, (hC.2 k hk).2.1, (hC.2 k hk).2.2.1, (hC.2 k hk).2.2.2.2⟩
theorem rwM_of {z : Int32} {ak asc ast al ax : Nat → Int32} (hV : bkV ne kd sc st ln tx) (hC : bkC ne kd sc st ln tx z ak asc ast al ax) : rwM ne kd sc ln tx ak asc al ax := fun k hk => ⟨(hC.2 k hk).1, (hC.2 k hk).2.1, (hC.2 k hk).2.2.1, fun i hi => ⟨(hC.2 k hk).2.2.2.2 i hi, bk_7 hV hk hi⟩⟩
theorem scC_of {z : Int32} {ak asc ast al ax : Nat → Int32} (hV : bkV ne kd sc st ln tx) (hC : bkC ne kd sc st ln tx z ak asc ast al ax) : scC ne sc st asc ast := fun k hk => ⟨(hC.2 k hk).2.1, (hV.2.1 k hk).2.1, (hV.2.1 k hk).2.2.1, (hC.2 k hk).2.2.2.1⟩
theorem smC_of {z : Int32} {ak asc ast al ax : Nat → Int32} (hV : bkV ne kd sc st ln tx) (hC : bkC ne kd sc st ln tx z ak asc ast al ax) : ∀ k, k < ne → asc k = nI (sc k) ∧ sc k ≤ 5 ∧ ∀ i, i < sc k → ast (5 * k + i) = st (5 * k + i) := fun k hk => ⟨(hC.2 k hk).2.1, (hV.2.1 k hk).2.2.1, (hC.2 k hk).2.2.2.1⟩
end BR
theorem okW_7 {a : Nat → Int32} {n : Nat} (h : okW a n) : ∀ j, j < n → ∃ m, m < 128 ∧ a j = nI m := by
  intro j hj
  rcases h j hj with q | q
  · exact sm_7 q
  · exact ⟨32, by omega, q.1⟩
theorem okW_cong {a b : Nat → Int32} {n : Nat} (e : ∀ j, j < n → b j = a j) (h : okW a n) : okW b n := by
  intro i hi
  rw [e i hi]
  rcases h i hi with q | ⟨q1, q2, q3, q4⟩
  · exact Or.inl q
  · exact Or.inr ⟨q1, q2, q3, by rw [e (i - 1) (by omega)]; exact q4⟩
/-- the plan of both sides -/
def rlP (ne : Nat) (sc : Nat → Nat) (st : Nat → Int32) (o : Option (List Nat)) (le ls lc : Int32) (la : Nat → Int32) (le' ls' lc' : Int32) (la' : Nat → Int32) : Prop := (o = none → le' = le ∧ ls' = ls ∧ lc' = lc ∧ la' = la) ∧ (∀ es', o = some es' → es'.length ≤ 60 ∧ le' = nI es'.length ∧ ls' = nI (sumS sc es') ∧ ar la' (es'.map nI) ∧ (clr ne sc st es' → lc' = 1) ∧ (¬ clr ne sc st es' → lc' = 0))

theorem op_planned {x le ls lc pm ps ic ip : Int32} {la pl : Nat → Int32} (hP : plR le ls lc la pm ps ic ip pl) : ∃ r, jf_Room_planned x le la = some r ∧ jf_Model_planned x pm pl = some r := by
  obtain ⟨rfl, rfl, -, m, hm, rfl, hl⟩ := hP
  rw [jf_Room_planned, jf_Planner_plannedAt, jf_Model_planned]
  rcases p_ix x (n := m) (by omega) with h | ⟨h, h'⟩ | ⟨j, hj, rfl⟩
  · rw [if_pos h, if_pos h]; exact ⟨_, rfl, rfl⟩
  · rw [if_neg h', if_neg h', if_pos h, if_pos h]; exact ⟨_, rfl, rfl⟩
  · rw [if_neg (p_n0 (by omega)), if_neg (p_n0 (by omega)), if_neg (p_nle hj (by omega)), if_neg (p_nle hj (by omega)), p_ga (by omega) (by omega), p_ga (by omega) (by omega), p_cl (by omega), hl j hj]
    exact ⟨_, rfl, rfl⟩
theorem op_clear {le ls lc pm ps ic ip : Int32} {la pl : Nat → Int32} (hP : plR le ls lc la pm ps ic ip pl) : ∃ r, jf_Room_clear lc = some r ∧ jf_Model_clear ic ip = some r := by
  obtain ⟨-, -, h, -⟩ := hP
  rw [jf_Room_clear, jf_Planner_clearness, jf_Model_clear]
  rcases h with ⟨h1, h2⟩ | ⟨h1, h2⟩
  · rw [if_pos h1, h2]; exact ⟨_, rfl, rfl⟩
  · rw [if_neg (by rw [h1]; decide), h2]; exact ⟨_, rfl, rfl⟩

theorem op_plan {N t ne : Nat} {kd : Nat → Int32} {sc : Nat → Nat} {st : Nat → Int32} {ln : Nat → Nat} {tx : Nat → Int32} {ak asc ast al ax mk mc mss ml mx cb mb : Nat → Int32} {x : Int32} {pn dd le ls lc jw js t0 t1 t2 t3 t4 us ur cz mz mtr mle mlm mbm mbs mtm mts pm ps mmm mmz ic ip : Int32} {dr gc gp jb la pc pp te tf tk wd mas mbe mea mfa mmd pl mtk mte mtl mtd mwy mwm mws : Nat → Int32} (hN : 9000 ≤ N) (hT : tpR t cz cb mz mb) (hV : bkV ne kd sc st ln tx) (hC : bkC ne kd sc st ln tx (nI ne) ak asc ast al ax) (hM : bkC ne kd sc st ln tx (nI ne) mk mc mss ml mx) (hP : plR le ls lc la pm ps ic ip pl) : ∃ (t' : Nat) (r pn' dd' le' ls' lc' jw' js' t0' t1' t2' t3' t4' us' ur' cz' mz' mtr' mle' mlm' mbm' mbs' mtm' mts' pm' ps' mmm' mmz' ic' ip' : Int32) (dr' gc' gp' jb' la' pc' pp' te' tf' tk' wd' mas' mbe' mea' mfa' mmd' pl' mtk' mte' mtl' mtd' mwy' mwm' mws' : Nat → Int32), jf_Room_plan N x (nI ne) 5 5 1 0 ak al ax asc ast cb pn dd le ls lc jw js t0 t1 t2 t3 t4 us ur cz dr gc gp jb la pc pp te tf tk wd = some (r, pn', dd', le', ls', lc', jw', js', t0', t1', t2', t3', t4', us', ur', cz', dr', gc', gp', jb', la', pc', pp', te', tf', tk', wd') ∧ jf_Model_plan N x (nI ne) mk mc mss mb ml mx mz mtr mle mlm mbm mbs mtm mts pm ps mmm mmz ic ip mas mbe mea mfa mmd pl mtk mte mtl mtd mwy mwm mws = some (r, mz', mtr', mle', mlm', mbm', mbs', mtm', mts', pm', ps', mmm', mmz', ic', ip', mas', mbe', mea', mfa', mmd', pl', mtk', mte', mtl', mtd', mwy', mwm', mws') ∧ tpR t' cz' cb mz' mb ∧ plR le' ls' lc' la' pm' ps' ic' ip' pl' := by
  obtain ⟨ht, rfl, rfl, hb⟩ := hT
  have same : tpR t (nI t) cb (nI t) mb := ⟨ht, rfl, rfl, hb⟩
  by_cases h1 : x < 1
  · rw [jf_Room_plan, if_pos h1, jf_Model_plan, if_pos h1]
    exact ⟨t, _, _, _, _, _, _, _, _, _, _, _, _, _, _, _, _, _, _, _, _, _, _, _, _, _, _, _, _, _, _, _, _, _, _, _, _, _, _, _, _, _, _, _, _, _, _, _, _, _, _, _, _, _, _, rfl, rfl, same, hP⟩
  by_cases h2 : 60 < x
  · rw [jf_Room_plan, if_neg h1, if_pos h2, jf_Model_plan, if_neg h1, if_pos h2]
    exact ⟨t, _, _, _, _, _, _, _, _, _, _, _, _, _, _, _, _, _, _, _, _, _, _, _, _, _, _, _, _, _, _, _, _, _, _, _, _, _, _, _, _, _, _, _, _, _, _, _, _, _, _, _, _, _, _, rfl, rfl, same, hP⟩
  by_cases h3 : x ≤ nI t
  rotate_left
  · rw [jf_Room_plan, if_neg h1, if_neg h2, jf_Tape_size, Option.bind_some, if_neg h3, jf_Model_plan, if_neg h1, if_neg h2, if_neg h3]
    exact ⟨t, _, _, _, _, _, _, _, _, _, _, _, _, _, _, _, _, _, _, _, _, _, _, _, _, _, _, _, _, _, _, _, _, _, _, _, _, _, _, _, _, _, _, _, _, _, _, _, _, _, _, _, _, _, _, rfl, rfl, same, hP⟩
  obtain ⟨n, hn1, hn60, hnt, rfl⟩ : ∃ n : Nat, 1 ≤ n ∧ n ≤ 60 ∧ n ≤ t ∧ x = nI n := by
    rcases p_ix x (n := 61) (by omega) with q | ⟨q, -⟩ | ⟨j, hj, rfl⟩
    · exact absurd (Int32.lt_iff_toInt_lt.mpr (by have := Int32.lt_iff_toInt_lt.mp q; rw [show (0 : Int32).toInt = 0 from rfl] at this; rw [show (1 : Int32).toInt = 1 from rfl]; omega)) h1
    · exact absurd (Int32.lt_iff_toInt_lt.mpr (by have := Int32.le_iff_toInt_le.mp q; rw [show (nI 61).toInt = 61 from rfl] at this; rw [show (60 : Int32).toInt = 60 from rfl]; omega)) h2
    · have h4 : 1 ≤ j := by
        rcases Nat.eq_zero_or_pos j with e | e
        · rw [e] at h1; exact absurd (by decide) h1
        · exact e
      rw [p_le (by omega) (by omega)] at h3
      exact ⟨j, h4, by omega, h3, rfl⟩
  have hbc : ∀ i, i < n → isB (cb i) := fun i hi => (hb i (by omega)).2
  obtain ⟨wd', w1, w2⟩ := ptake_loop (n := n) (t := t) hn60 hnt ht hbc n 0 N wd (by omega) (by omega) (fun j hj => absurd hj (Nat.not_lt_zero j))
  obtain ⟨tk2, k1, k2⟩ := takes_ok (N := N) (n := n) (tape := mb) (tk := mtk) (tp := nI t) (by omega) (by omega) (fun i hi => by rw [(hb i (by omega)).1]; exact hbc i hi)
  have k3 : ∀ j, j < n → tk2 j = wd' j := fun j hj => by rw [k2 j hj, w2 j hj, (hb j (by omega)).1]
  have k4 : ∀ j, j < n → isB (tk2 j) := fun j hj => by rw [k2 j hj, (hb j (by omega)).1]; exact hbc j hj
  obtain ⟨z1, y1, y2, y3⟩ := tookWords_ok (N := N) (a := wd') (by omega) hn60 hn1
  obtain ⟨z2, x1, x2, x3⟩ := isAsked_ok (N := N) (a := tk2) (by omega) hn60 k4
  have e0 : tpR 0 0 cb 0 mb := ⟨by omega, rfl, rfl, fun i hi => absurd hi (Nat.not_lt_zero i)⟩
  rw [jf_Room_plan, if_neg h1, if_neg h2, jf_Tape_size, Option.bind_some, if_pos h3, jf_Planner_take, show jf_Planner_take_b7 (nI n) (nI t) cb N 0 0 wd = _ from w1, Option.bind_some]
  dsimp only
  rw [jf_Tape_wipe, Option.bind_some, y1, Option.bind_some, jf_Model_plan, if_neg h1, if_neg h2, if_pos h3, k1, Option.bind_some]
  dsimp only
  rw [x1, Option.bind_some]
  by_cases hok : okW wd' n
  rotate_left
  · rw [y3 hok, if_pos rfl, x3 (fun q => hok (okW_cong (fun j hj => (k3 j hj).symm) q)), if_pos rfl]
    exact ⟨0, _, _, _, _, _, _, _, _, _, _, _, _, _, _, _, _, _, _, _, _, _, _, _, _, _, _, _, _, _, _, _, _, _, _, _, _, _, _, _, _, _, _, _, _, _, _, _, _, _, _, _, _, _, _, rfl, rfl, e0, hP⟩
  have hok2 : okW tk2 n := okW_cong k3 hok
  rw [y2 hok, x2 hok2, if_neg (by decide), if_neg (by decide)]
  obtain ⟨mas', m1, m2⟩ := mp_take (N := N) (ne := ne) (n := n) (mk := mk) (mc := mc) (mss := mss) (ml := ml) (mx := mx) (tp := 0) (tr := mtr) (le := mle) (lm := mlm) (bm := mbm) (bs := mbs) (tm := mtm) (ts := mts) (pm := pm) (ps := ps) (mm := mmm) (mz := mmz) (ic := ic) (ip := ip) (be := mbe) (ea := mea) (fa := mfa) (md := mmd) (pl := pl) (tkn := tk2) (te := mte) (trl := mtl) (trd := mtd) (wy := mwy) (wm := mwm) (ws := mws) hn60 k4 n 0 N mas (by omega) (by omega) (fun j hj => absurd hj (Nat.not_lt_zero j))
  have m3 : ∀ j, j < n → mas' j = wd' j := fun j hj => by rw [m2 j hj, k3 j hj]
  have hok3 : okW mas' n := okW_cong m3 hok
  obtain ⟨c1, dd', le', ls', lc', jw', js', t0', t1', t2', t3', t4', us', ur', dr', gc', gp', jb', la', pc', pp', te', tf', tk', r1, r2, r3⟩ := mk_loop (N := N) (a := wd') (le := le) (ls := ls) (lc := lc) (us := us) (ur := ur) (la := la) (te := te) (tf := tf) (tk := tk) hN hV.1 hn60 hok (bkL_of hV (Or.inl ⟨rfl, rfl⟩)) (bkL_of hV (Or.inr ⟨rfl, rfl⟩)) (bkJ_of hV) (rwC_of hC) hV.2.2 (scC_of hV hC) (n + 1) 0 N [] jw js t0 t1 t2 t3 t4 dr gc gp jb pc pp (wst_0 hn1 hok) (by omega) (by omega) (by rw [List.length_nil]; omega) (by rw [List.length_nil]; omega) (fun k hk => absurd hk List.not_mem_nil) ar_nil
  obtain ⟨c2, mtr', mle', mlm', mbm', mbs', mtm', mts', pm', ps', mmm', mmz', ic', ip', mbe', mea', mfa', mmd', pl', mte', mtl', mtd', mwy', mwm', mws', q1, q2, q3⟩ := mp_loop (N := N) (tp := 0) (tr := mtr) (pm := pm) (ps := ps) (ic := ic) (ip := ip) (ask := mas') (ea := mea) (fa := mfa) (pl := pl) (tkn := tk2) (trl := mtl) hN hV.1 hn60 hok3 (okW_7 hok3) (bkL_of hV (Or.inl ⟨rfl, rfl⟩)) (bkL_of hV (Or.inr ⟨rfl, rfl⟩)) (bkJ_of hV) (rwM_of hV hM) hV.2.2 (smC_of hV hM) (n + 1) 0 N [] mle mlm mbm mbs mtm mts mbe mmd mte mtd mwy mwm mws (wst_0 hn1 hok3) (by omega) (by omega) (by rw [List.length_nil]; omega) (by rw [List.length_nil]; omega) (fun k hk => absurd hk List.not_mem_nil) ar_nil
  rw [PW_cong m3] at q2 q3
  rw [show jf_Model_plan_b41 N (nI n) (nI ne) mk mc mss ml mx N 0 0 mtr mle mlm mbm mbs mtm mts pm ps mmm mmz ic ip mas mbe mea mfa mmd pl tk2 mte mtl mtd mwy mwm mws = _ from m1, jf_Model_plan_b64, show jf_Model_plan_b76 N (nI n) (nI ne) mk mc mss ml mx N 0 0 mtr mle mlm mbm mbs mtm mts pm ps 0 0 ic ip mas' mbe mea mfa mmd pl tk2 mte mtl mtd mwy mwm mws = _ from q1, jf_Planner_make, show jf_Planner_make_b9 N (nI n) (nI ne) 5 5 1 0 ak al ax asc ast wd' N 0 0 0 le ls lc jw js t0 t1 t2 t3 t4 us ur dr gc gp jb la pc pp te tf tk = _ from r1, Option.bind_some]
  dsimp only
  obtain ⟨p1, p2, p3, p4⟩ := hP
  cases hpw : PW kd sc ln tx wd' n ne (n + 1) 0 [] with
  | none =>
    obtain ⟨a1, a2, a3, a4, a5⟩ := r2 hpw
    obtain ⟨b1, b2, b3, b4, b5, b6⟩ := q2 hpw
    rw [a1, if_pos rfl, b1]
    refine ⟨0, _, _, _, _, _, _, _, _, _, _, _, _, _, _, _, _, _, _, _, _, _, _, _, _, _, _, _, _, _, _, _, _, _, _, _, _, _, _, _, _, _, _, _, _, _, _, _, _, _, _, _, _, _, _, rfl, rfl, e0, ?_⟩
    rw [a2, a3, a4, a5, b2, b3, b4, b5, b6]
    exact ⟨p1, p2, p3, p4⟩
  | some es =>
    obtain ⟨a1, a2, a3, a4, a5, a6, a7⟩ := r3 es hpw
    obtain ⟨b1, b2, b3, b4, b5, b6, b7⟩ := q3 es hpw
    rw [a1, if_neg (by decide), jf_Planner_plannedStrokes, Option.bind_some, a4, b1]
    refine ⟨0, _, _, _, _, _, _, _, _, _, _, _, _, _, _, _, _, _, _, _, _, _, _, _, _, _, _, _, _, _, _, _, _, _, _, _, _, _, _, _, _, _, _, _, _, _, _, _, _, _, _, _, _, _, _, rfl, rfl, e0, ?_⟩
    refine ⟨by rw [b2, a3], by rw [b3], Or.inr ⟨b4, ?_⟩, es.length, a2, a3, fun i hi => ?_⟩
    · by_cases hc : clr ne sc st es
      · rw [a6 hc, b6 hc]
      · rw [a7 hc, b7 hc]
    · have hi' : i < (es.map nI).length := by rw [List.length_map]; exact hi
      rw [ar_at a5 hi', ar_at b5 hi']

