/-! the reference makes a plan -/
section MP
variable {N ne n : Nat} {kd : Nat → Int32} {sc : Nat → Nat} {st : Nat → Int32} {ln : Nat → Nat} {tx : Nat → Int32} {mk mc mss ml mx : Nat → Int32}
theorem mp_scan {k76 : Int32 → Int32 → Int32 → Int32 → Int32 → Int32 → Int32 → Int32 → Int32 → Int32 → Int32 → Int32 → Int32 → Int32 → Int32 → (Nat → Int32) → (Nat → Int32) → (Nat → Int32) → (Nat → Int32) → (Nat → Int32) → (Nat → Int32) → (Nat → Int32) → (Nat → Int32) → (Nat → Int32) → (Nat → Int32) → (Nat → Int32) → (Nat → Int32) → (Nat → Int32) → Option (Int32 × Int32 × Int32 × Int32 × Int32 × Int32 × Int32 × Int32 × Int32 × Int32 × Int32 × Int32 × Int32 × Int32 × Int32 × (Nat → Int32) × (Nat → Int32) × (Nat → Int32) × (Nat → Int32) × (Nat → Int32) × (Nat → Int32) × (Nat → Int32) × (Nat → Int32) × (Nat → Int32) × (Nat → Int32) × (Nat → Int32) × (Nat → Int32) × (Nat → Int32))} {fr to : Nat} {tp tr le lm bm bs tm ts pm ps mm mz ic ip : Int32} {ask be ea fa md pl tkn te trl trd wy wm ws : Nat → Int32} (hn : n ≤ 60) (hto : to ≤ n) : ∀ (d i g : Nat), i + d = to → (∀ j, i ≤ j → j < to → ¬ ask j = 32) → jf_Model_plan_b83 N (nI n) (nI ne) mk mc ml mx k76 (g + d) (nI fr) (nI i) tp tr le lm bm bs tm ts pm ps mm mz ic ip ask be ea fa md pl tkn te trl trd wy wm ws = jf_Model_plan_b83 N (nI n) (nI ne) mk mc ml mx k76 g (nI fr) (nI to) tp tr le lm bm bs tm ts pm ps mm mz ic ip ask be ea fa md pl tkn te trl trd wy wm ws := by
  intro d
  induction d with
  | zero =>
    intro i g hi h
    rw [show i = to by omega]
    rfl
  | succ d ih =>
    intro i g hi h
    rw [← Nat.add_assoc, jf_Model_plan_b83, if_neg (p_nle (by omega) (by omega)), p_ga (by omega) (by omega), p_cl (by omega), if_neg (h i (Nat.le_refl i) (by omega)), nI_1]
    exact ih (i + 1) g (by omega) (fun j h1 h2 => h j (by omega) h2)
theorem mp_at {k76 : Int32 → Int32 → Int32 → Int32 → Int32 → Int32 → Int32 → Int32 → Int32 → Int32 → Int32 → Int32 → Int32 → Int32 → Int32 → (Nat → Int32) → (Nat → Int32) → (Nat → Int32) → (Nat → Int32) → (Nat → Int32) → (Nat → Int32) → (Nat → Int32) → (Nat → Int32) → (Nat → Int32) → (Nat → Int32) → (Nat → Int32) → (Nat → Int32) → (Nat → Int32) → Option (Int32 × Int32 × Int32 × Int32 × Int32 × Int32 × Int32 × Int32 × Int32 × Int32 × Int32 × Int32 × Int32 × Int32 × Int32 × (Nat → Int32) × (Nat → Int32) × (Nat → Int32) × (Nat → Int32) × (Nat → Int32) × (Nat → Int32) × (Nat → Int32) × (Nat → Int32) × (Nat → Int32) × (Nat → Int32) × (Nat → Int32) × (Nat → Int32) × (Nat → Int32))} {fr to g : Nat} {tp tr le lm bm bs tm ts pm ps mm mz ic ip : Int32} {ask be ea fa md pl tkn te trl trd wy wm ws : Nat → Int32} (hn : n ≤ 60) (hto : to ≤ n) (h : to = n ∨ ask to = 32) : jf_Model_plan_b83 N (nI n) (nI ne) mk mc ml mx k76 (g + 1) (nI fr) (nI to) tp tr le lm bm bs tm ts pm ps mm mz ic ip ask be ea fa md pl tkn te trl trd wy wm ws = jf_Model_plan_b106 N (nI ne) mk mc ml mx k76 (nI fr) (nI to) tp tr le lm bm bs tm ts pm ps mm mz ic ip ask be ea fa md pl tkn te trl trd wy wm ws := by
  rw [jf_Model_plan_b83]
  by_cases e : to = n
  · rw [if_pos (by rw [e]; exact p_yle (Nat.le_refl n) (by omega))]
  · rw [if_neg (p_nle (by omega) (by omega)), p_ga (by omega) (by omega), p_cl (by omega), if_pos (h.resolve_left e)]
theorem mp_copy {m : Nat} {tp tr le lm bm bs tm ts pm ps mm mz ic ip : Int32} {ask be ea fa md tkn te trl trd wy wm ws : Nat → Int32} (hm : m ≤ 60) (hmm : mm = nI m) : ∀ (d i g : Nat) (pl : Nat → Int32), i + d = m → d < g → (∀ j, j < i → pl j = md j) → ∃ pl', jf_Model_plan_b148 N (nI ne) mc mss g (nI i) tp tr le lm bm bs tm ts pm ps mm mz ic ip ask be ea fa md pl tkn te trl trd wy wm ws = jf_Model_plan_b174 N (nI ne) mc mss tp tr le lm bm bs tm ts pm ps mm mz ic ip ask be ea fa md pl' tkn te trl trd wy wm ws ∧ ∀ j, j < m → pl' j = md j := by
  intro d
  induction d with
  | zero =>
    intro i g pl hi hg h
    obtain ⟨g, rfl⟩ : ∃ y, g = y + 1 := ⟨g - 1, by omega⟩
    have e : i = m := by omega
    rw [jf_Model_plan_b148, if_pos (by rw [hmm]; exact p_yle (by omega) (by omega))]
    exact ⟨pl, rfl, fun j hj => h j (by omega)⟩
  | succ d ih =>
    intro i g pl hi hg h
    obtain ⟨g, rfl⟩ : ∃ y, g = y + 1 := ⟨g - 1, by omega⟩
    rw [jf_Model_plan_b148, if_neg (by rw [hmm]; exact p_nle (by omega) (by omega)), p_ga (by omega) (by omega), p_ga (by omega) (by omega), p_cl (by omega), nI_1]
    refine ih (i + 1) g (upd pl i (md i)) (by omega) (by omega) (fun j hj => ?_)
    by_cases e : j = i
    · rw [e, p_upd_s]
    · rw [p_upd_n e]; exact h j (by omega)
theorem mp_end {es : List Nat} {tp tr le lm bm bs tm ts pm ps ic ip : Int32} {ask be ea fa md pl tkn te trl trd wy wm ws : Nat → Int32} (hN : 400 ≤ N) (hne : ne ≤ 60) (hd : dst ne sc st) (hmc : ∀ k, k < ne → mc k = nI (sc k) ∧ sc k ≤ 5 ∧ ∀ i, i < sc k → mss (5 * k + i) = st (5 * k + i)) (hl : es.length ≤ 60) (hm : ∀ k, k ∈ es → k < ne) (ha : ar md (es.map nI)) : ∃ (tr' ic' : Int32) (ea' fa' pl' trl' : Nat → Int32), jf_Model_plan_b125 N (nI ne) mc mss tp tr le lm bm bs tm ts pm ps (nI es.length) (nI (sumS sc es)) ic ip ask be ea fa md pl tkn te trl trd wy wm ws = some (nI (sumS sc es), tp, tr', le, lm, bm, bs, tm, ts, nI es.length, nI (sumS sc es), nI es.length, nI (sumS sc es), ic', 1, ask, be, ea', fa', md, pl', tkn, te, trl', trd, wy, wm, ws) ∧ ar pl' (es.map nI) ∧ (clr ne sc st es → ic' = 1) ∧ (¬ clr ne sc st es → ic' = 0) := by
  obtain ⟨pl', r1, r2⟩ := mp_copy (N := N) (ne := ne) (mc := mc) (mss := mss) (m := es.length) (tp := tp) (tr := tr) (le := le) (lm := lm) (bm := bm) (bs := bs) (tm := tm) (ts := ts) (pm := nI es.length) (ps := nI (sumS sc es)) (mm := nI es.length) (mz := nI (sumS sc es)) (ic := ic) (ip := 1) (ask := ask) (be := be) (ea := ea) (fa := fa) (md := md) (tkn := tkn) (te := te) (trl := trl) (trd := trd) (wy := wy) (wm := wm) (ws := ws) hl rfl es.length 0 N pl (by omega) (by omega) (fun j hj => absurd hj (Nat.not_lt_zero j))
  have hp : ar pl' (es.map nI) := ar_cong ha (fun q hq => r2 q (by rw [List.length_map] at hq; exact hq))
  obtain ⟨z, tr', ea', fa', trl', z1, z2, z3⟩ := isRead_plan (N := N) (a := pl') (tr := tr) (ea := ea) (fa := fa) (t := trl) hl hne hN hd hmc (ar_es hp hm)
  rw [jf_Model_plan_b125, show jf_Model_plan_b148 N (nI ne) mc mss N 0 tp tr le lm bm bs tm ts (nI es.length) (nI (sumS sc es)) (nI es.length) (nI (sumS sc es)) ic 1 ask be ea fa md pl tkn te trl trd wy wm ws = _ from r1, jf_Model_plan_b174, z1, Option.bind_some]
  dsimp only
  by_cases h : clr ne sc st es
  · rw [z2 h, if_neg (by decide), jf_Model_plan_b195]
    exact ⟨_, 1, _, _, _, _, rfl, hp, fun _ => rfl, fun q => absurd h q⟩
  · rw [z3 h, if_pos rfl, jf_Model_plan_b195]
    exact ⟨_, 0, _, _, _, _, rfl, hp, fun q => absurd q h, fun _ => rfl⟩
theorem mp_loop {tp tr pm ps ic ip : Int32} {ask ea fa pl tkn trl : Nat → Int32} (hN : 9000 ≤ N) (hne : ne ≤ 60) (hn : n ≤ 60) (hok : okW ask n) (hask : ∀ j, j < n → ∃ m, m < 128 ∧ ask j = nI m) (hb1 : bkL ne kd sc ln 1 0) (hb5 : bkL ne kd sc ln 5 5) (hbJ : bkJ ne kd sc ln tx) (hA : rwM ne kd sc ln tx mk mc ml mx) (hd : dst ne sc st) (hmc : ∀ k, k < ne → mc k = nI (sc k) ∧ sc k ≤ 5 ∧ ∀ i, i < sc k → mss (5 * k + i) = st (5 * k + i)) : ∀ (d fr g : Nat) (es : List Nat) (le lm bm bs tm ts : Int32) (be md te trd wy wm ws : Nat → Int32), wst ask n fr → n + 1 ≤ fr + d → n + 2 ≤ fr + g → es.length ≤ fr → es.length ≤ n → (∀ k, k ∈ es → k < ne) → ar md (es.map nI) → ∃ (r tr' le' lm' bm' bs' tm' ts' pm' ps' mm' mz' ic' ip' : Int32) (be' ea' fa' md' pl' te' trl' trd' wy' wm' ws' : Nat → Int32), jf_Model_plan_b76 N (nI n) (nI ne) mk mc mss ml mx g (nI fr) tp tr le lm bm bs tm ts pm ps (nI es.length) (nI (sumS sc es)) ic ip ask be ea fa md pl tkn te trl trd wy wm ws = some (r, tp, tr', le', lm', bm', bs', tm', ts', pm', ps', mm', mz', ic', ip', ask, be', ea', fa', md', pl', tkn, te', trl', trd', wy', wm', ws') ∧ (PW kd sc ln tx ask n ne d fr es = none → r = -2 ∧ pm' = pm ∧ ps' = ps ∧ ic' = ic ∧ ip' = ip ∧ pl' = pl) ∧ (∀ es', PW kd sc ln tx ask n ne d fr es = some es' → r = nI (sumS sc es') ∧ pm' = nI es'.length ∧ ps' = nI (sumS sc es') ∧ ip' = 1 ∧ ar pl' (es'.map nI) ∧ (clr ne sc st es' → ic' = 1) ∧ (¬ clr ne sc st es' → ic' = 0)) := by
  intro d
  induction d with
  | zero =>
    intro fr g es le lm bm bs tm ts be md te trd wy wm ws hw h1 h2 h3 h4 hm ha
    rcases hw with hw | ⟨hw, hw'⟩
    · obtain ⟨g, rfl⟩ : ∃ y, g = y + 1 := ⟨g - 1, by omega⟩
      obtain ⟨tr', ic', ea', fa', pl', trl', r1, r2, r3, r4⟩ := mp_end (N := N) (tp := tp) (tr := tr) (le := le) (lm := lm) (bm := bm) (bs := bs) (tm := tm) (ts := ts) (pm := pm) (ps := ps) (ic := ic) (ip := ip) (ask := ask) (be := be) (ea := ea) (fa := fa) (md := md) (pl := pl) (tkn := tkn) (te := te) (trl := trl) (trd := trd) (wy := wy) (wm := wm) (ws := ws) (by omega) hne hd hmc (by omega) hm ha
      rw [jf_Model_plan_b76, if_pos (p_yle (by omega) (by omega)), r1, PW_end (by omega)]
      refine ⟨_, _, _, _, _, _, _, _, _, _, _, _, _, _, _, _, _, _, _, _, _, _, _, _, _, rfl, (fun q => by cases q), fun es' q => ?_⟩
      cases q
      exact ⟨rfl, rfl, rfl, rfl, r2, r3, r4⟩
    · omega
  | succ d ih =>
    intro fr g es le lm bm bs tm ts be md te trd wy wm ws hw h1 h2 h3 h4 hm ha
    rcases hw with hw | ⟨hw, hw'⟩
    · obtain ⟨g, rfl⟩ : ∃ y, g = y + 1 := ⟨g - 1, by omega⟩
      obtain ⟨tr', ic', ea', fa', pl', trl', r1, r2, r3, r4⟩ := mp_end (N := N) (tp := tp) (tr := tr) (le := le) (lm := lm) (bm := bm) (bs := bs) (tm := tm) (ts := ts) (pm := pm) (ps := ps) (ic := ic) (ip := ip) (ask := ask) (be := be) (ea := ea) (fa := fa) (md := md) (pl := pl) (tkn := tkn) (te := te) (trl := trl) (trd := trd) (wy := wy) (wm := wm) (ws := ws) (by omega) hne hd hmc (by omega) hm ha
      rw [jf_Model_plan_b76, if_pos (p_yle (by omega) (by omega)), r1, PW_end (by omega)]
      refine ⟨_, _, _, _, _, _, _, _, _, _, _, _, _, _, _, _, _, _, _, _, _, _, _, _, _, rfl, (fun q => by cases q), fun es' q => ?_⟩
      cases q
      exact ⟨rfl, rfl, rfl, rfl, r2, r3, r4⟩
    · obtain ⟨to, hto⟩ : ∃ to, to = nx ask (n - fr) fr := ⟨_, rfl⟩
      obtain ⟨n1, n2, n3, n4⟩ := nx_ok (a := ask) (n - fr) fr
      have hw2 := wst_nx hok hw
      rw [← hto] at n1 n2 n3 n4 hw2
      have n5 : to = n ∨ ask to = 32 := by
        rcases n4 with n4 | n4
        · exact Or.inl (by omega)
        · exact Or.inr n4
      have hft : fr < to := by
        rcases Nat.lt_or_ge fr to with q | q
        · exact q
        · rcases n5 with n5 | n5
          · omega
          · rw [show to = fr by omega] at n5
            exact absurd n5 hw'
      obtain ⟨g, rfl⟩ : ∃ y, g = y + 1 := ⟨g - 1, by omega⟩
      obtain ⟨N', hN'⟩ : ∃ y, N = y + 1 + (to - fr) := ⟨N - 1 - (to - fr), by omega⟩
      obtain ⟨z, le', lm', bm', bs', tm', ts', mm', mz', be', md', te', trd', wy', wm', ws', r1, r2, r3⟩ := plans_ok (N := N) (es := es) (ask := ask) (le := le) (lm := lm) (bm := bm) (bs := bs) (tm := tm) (ts := ts) (be := be) (md := md) (te := te) (tr := trd) (wy := wy) (wm := wm) (ws := ws) hN hne (show to ≤ 60 by omega) hft (fun j hj => hask j (by omega)) hb1 hb5 hbJ hA (by omega) ha
      have hsc := mp_scan (N := N) (ne := ne) (n := n) (mk := mk) (mc := mc) (ml := ml) (mx := mx) (k76 := jf_Model_plan_b76 N (nI n) (nI ne) mk mc mss ml mx g) (fr := fr) (to := to) (tp := tp) (tr := tr) (le := le) (lm := lm) (bm := bm) (bs := bs) (tm := tm) (ts := ts) (pm := pm) (ps := ps) (mm := nI es.length) (mz := nI (sumS sc es)) (ic := ic) (ip := ip) (ask := ask) (be := be) (ea := ea) (fa := fa) (md := md) (pl := pl) (tkn := tkn) (te := te) (trl := trl) (trd := trd) (wy := wy) (wm := wm) (ws := ws) hn (by omega) (to - fr) fr (N' + 1) (by omega) n3
      rw [← hN', mp_at hn (by omega) n5, jf_Model_plan_b106, r1, Option.bind_some] at hsc
      rw [jf_Model_plan_b76, if_neg (p_nle (by omega) (by omega)), hsc]
      dsimp only
      cases hwr : WR kd sc ln tx ask fr to ne with
      | none =>
        rw [r2 hwr, if_pos rfl, PW_no hw (by rw [← hto]; exact hwr)]
        exact ⟨_, _, _, _, _, _, _, _, _, _, _, _, _, _, _, _, _, _, _, _, _, _, _, _, _, rfl, fun _ => ⟨rfl, rfl, rfl, rfl, rfl, rfl⟩, fun es' q => by cases q⟩
      | some x =>
        obtain ⟨s, l⟩ := x
        obtain ⟨y1, y2, y3, y6⟩ := r3 s l hwr
        obtain ⟨-, y4, -, -, y5⟩ := WR_sm (ask := ask) (fr := fr) hne (show to ≤ 60 by omega) hb1 hb5 hbJ s l hwr
        have hlen : (es ++ l).length = es.length + l.length := List.length_append
        rw [y1, if_neg (by decide), nI_1, y2, y3, PW_go hw (by rw [← hto]; exact hwr), ← hto]
        refine ih (to + 1) g (es ++ l) _ _ _ _ _ _ _ _ _ _ _ _ _ hw2 (by omega) (by omega) (by omega) (by omega) (fun k hk => ?_) y6
        rcases List.mem_append.mp hk with q | q
        · exact hm k q
        · exact y5 k q
theorem mp_take {tp tr le lm bm bs tm ts pm ps mm mz ic ip : Int32} {be ea fa md pl tkn te trl trd wy wm ws : Nat → Int32} (hn : n ≤ 60) (hB : ∀ j, j < n → isB (tkn j)) : ∀ (d i g : Nat) (ask : Nat → Int32), i + d = n → d < g → (∀ j, j < i → ask j = tkn j) → ∃ ask', jf_Model_plan_b41 N (nI n) (nI ne) mk mc mss ml mx g (nI i) tp tr le lm bm bs tm ts pm ps mm mz ic ip ask be ea fa md pl tkn te trl trd wy wm ws = jf_Model_plan_b64 N (nI n) (nI ne) mk mc mss ml mx tp tr le lm bm bs tm ts pm ps mm mz ic ip ask' be ea fa md pl tkn te trl trd wy wm ws ∧ ∀ j, j < n → ask' j = tkn j := by
  intro d
  induction d with
  | zero =>
    intro i g ask hi hg h
    obtain ⟨g, rfl⟩ : ∃ y, g = y + 1 := ⟨g - 1, by omega⟩
    rw [jf_Model_plan_b41, if_pos (p_yle (by omega) (by omega))]
    exact ⟨ask, rfl, fun j hj => h j (by omega)⟩
  | succ d ih =>
    intro i g ask hi hg h
    obtain ⟨g, rfl⟩ : ∃ y, g = y + 1 := ⟨g - 1, by omega⟩
    rw [jf_Model_plan_b41, if_neg (p_nle (by omega) (by omega)), p_ga (by omega) (by omega), p_ga (by omega) (by omega), p_cl (by omega), vp_nar_byte, hB i (by omega), nI_1]
    refine ih (i + 1) g (upd ask i (tkn i)) (by omega) (by omega) (fun j hj => ?_)
    by_cases e : j = i
    · rw [e, p_upd_s]
    · rw [p_upd_n e]; exact h j (by omega)
end MP
