/-! the best way of a word, both sides -/
noncomputable def WR (kd : Nat → Int32) (sc ln : Nat → Nat) (tx ask : Nat → Int32) (fr to ne : Nat) : WL := mn (mn (wayP kd sc ln tx ask 1 0 to ne fr) (wayP kd sc ln tx ask 5 5 to ne fr)) (jout kd sc ln tx ask fr to ne ne)
theorem nI_min {a b : Nat} (ha : a < 2147483648) (hb : b < 2147483648) : (if nI a < nI b then nI a else nI b) = nI (if a < b then a else b) := by
  by_cases h : a < b
  · rw [if_pos h, if_pos (p_ylt h hb)]
  · rw [if_neg h, if_neg (p_nlt (by omega) ha)]
theorem pick3 {p g j : WL} (k1 : p ≠ none → keyN p < 2147483647) (k2 : g ≠ none → keyN g < 2147483647) (k3 : j ≠ none → keyN j < 2147483647) (d1 : keyN p = keyN g → p = none ∧ g = none) (d2 : keyN p = keyN j → p = none ∧ j = none) (d3 : keyN g = keyN j → g = none ∧ j = none) {b : Nat} (hb : b = if (if keyN j < keyN g then keyN j else keyN g) < keyN p then (if keyN j < keyN g then keyN j else keyN g) else keyN p) : (b = 2147483647 → mn (mn p g) j = none) ∧ (¬ b = 2147483647 → b = keyN j → mn (mn p g) j = j ∧ j ≠ none) ∧ (¬ b = 2147483647 → ¬ b = keyN j → b = keyN p → mn (mn p g) j = p ∧ p ≠ none) ∧ (¬ b = 2147483647 → ¬ b = keyN j → ¬ b = keyN p → mn (mn p g) j = g ∧ g ≠ none ∧ b = keyN g) := by
  have nn : ∀ a : WL, (a ≠ none → keyN a < 2147483647) → (keyN a ≤ 2147483647 ∧ (keyN a = 2147483647 → a = none) ∧ (a = none → keyN a = 2147483647)) := by
    intro a h
    cases a with
    | none => exact ⟨Nat.le_refl _, fun _ => rfl, fun _ => rfl⟩
    | some x =>
      have := h (fun z => by cases z)
      exact ⟨by omega, fun q => by omega, fun q => by cases q⟩
  obtain ⟨l1, e1, f1⟩ := nn p k1
  obtain ⟨l2, e2, f2⟩ := nn g k2
  obtain ⟨l3, e3, f3⟩ := nn j k3
  have m0 : ∀ a c : WL, c ≠ none → keyN c < keyN a → mn a c = c := by
    intro a c hc h
    cases c with
    | none => exact absurd rfl hc
    | some y =>
      obtain ⟨s, l⟩ := y
      exact mn_key.2 h
  have m1 : ∀ a c : WL, keyN a ≤ keyN c → (c ≠ none → keyN c < 2147483647) → mn a c = a := by
    intro a c h hc
    cases c with
    | none => rfl
    | some y =>
      obtain ⟨s, l⟩ := y
      exact mn_key.1 h (hc (fun z => by cases z))
  have hle : b ≤ keyN p ∧ b ≤ keyN g ∧ b ≤ keyN j ∧ (b = keyN p ∨ b = keyN g ∨ b = keyN j) := by
    by_cases c1 : keyN j < keyN g
    · rw [if_pos c1] at hb
      by_cases c2 : keyN j < keyN p
      · rw [if_pos c2] at hb; omega
      · rw [if_neg c2] at hb; omega
    · rw [if_neg c1] at hb
      by_cases c2 : keyN g < keyN p
      · rw [if_pos c2] at hb; omega
      · rw [if_neg c2] at hb; omega
  obtain ⟨b1, b2, b3, b4⟩ := hle
  refine ⟨fun h => ?_, fun h1 h2 => ?_, fun h1 h2 h3 => ?_, fun h1 h2 h3 => ?_⟩
  · rw [e1 (by omega), e2 (by omega), e3 (by omega)]
    rfl
  · have hj : j ≠ none := fun z => h1 (by rw [h2, f3 z])
    have s1 : keyN j < keyN p := by
      rcases Nat.lt_or_ge (keyN j) (keyN p) with q | q
      · exact q
      · exact absurd (d2 (by omega)).2 hj
    have s2 : keyN j < keyN g := by
      rcases Nat.lt_or_ge (keyN j) (keyN g) with q | q
      · exact q
      · exact absurd (d3 (by omega)).2 hj
    refine ⟨?_, hj⟩
    rcases mn_or p g with q | q
    · rw [q]; exact m0 _ _ hj s1
    · rw [q]; exact m0 _ _ hj s2
  · have hp : p ≠ none := fun z => h1 (by rw [h3, f1 z])
    exact ⟨by rw [m1 p g (by omega) k2, m1 p j (by omega) k3], hp⟩
  · have hg : b = keyN g := by omega
    have hg' : g ≠ none := fun z => h1 (by rw [hg, f2 z])
    exact ⟨by rw [m0 p g hg' (by omega), m1 g j (by omega) k3], hg', hg⟩
section WD
variable {N ne : Nat} {kd : Nat → Int32} {sc : Nat → Nat} {st : Nat → Int32} {ln : Nat → Nat} {tx ask : Nat → Int32} {fr to : Nat}
/-- a small way: short, and its head -/
def smL (ne n : Nat) (sc : Nat → Nat) (r : WL) : Prop := ∀ s l, r = some (s, l) → (∃ k l', l = k :: l') ∧ l.length ≤ n ∧ sumS sc l = s ∧ s ≤ 300 ∧ ∀ k, k ∈ l → k < ne
theorem smL_key {n : Nat} {r : WL} (hne : ne ≤ 60) (hn : n ≤ 60) (h : smL ne n sc r) : r ≠ none → keyN r < 2147483647 := by
  intro hr
  cases r with
  | none => exact absurd rfl hr
  | some x =>
    obtain ⟨s, l⟩ := x
    obtain ⟨⟨k, l', e⟩, h2, h3, h4, h5⟩ := h s l rfl
    subst e
    have := h5 k List.mem_cons_self
    rw [keyN, keyW, List.headD_cons]
    omega
theorem smL_head {n : Nat} {r r' : WL} {s s' : Nat} {l l' : List Nat} (hne : ne ≤ 60) (hn : n ≤ 60) (h : smL ne n sc r) (h' : smL ne n sc r') (e : r = some (s, l)) (e' : r' = some (s', l')) (hk : keyN r = keyN r') : l.length = l'.length ∧ l.headD 0 = l'.headD 0 := by
  obtain ⟨⟨k, t, q⟩, h2, h3, h4, h5⟩ := h s l e
  obtain ⟨⟨k', t', q'⟩, h2', h3', h4', h5'⟩ := h' s' l' e'
  subst q q'
  have g1 := h5 k List.mem_cons_self
  have g2 := h5' k' List.mem_cons_self
  rw [e, e', keyN, keyN, keyW, keyW, List.headD_cons, List.headD_cons] at hk
  rw [List.headD_cons, List.headD_cons]
  omega
theorem wayP_sm {inn lst : Int32} (hne : ne ≤ 60) (hto : to ≤ 60) (hb : bkL ne kd sc ln inn lst) : smL ne (to - fr) sc (wayP kd sc ln tx ask inn lst to ne fr) := by
  intro s l h
  obtain ⟨m, k, l', h1, h2, h3, h4, h5, h6, h7, -⟩ := wayP_s hb h
  have hs := sumS_len (sc := sc) l (fun j hj => (hb j (h6 j hj)).1)
  exact ⟨⟨k, l', h3⟩, h7, h5, by omega, h6⟩
theorem jout_sm (hb : bkJ ne kd sc ln tx) : smL ne (to - fr) sc (jout kd sc ln tx ask fr to ne ne) := by
  intro s l h
  obtain ⟨w', s', h1, h2, h3, h4, h5, h6, h7⟩ := jout_L (tx := tx) (ask := ask) (fr := fr) (to := to) hb ne (Nat.le_refl ne) s l h
  have c1 := (hb w' h4).1
  have c2 := (hb s' h5).1
  subst h1
  refine ⟨⟨w', [s'], rfl⟩, by simpa using h7, by rw [h2]; rfl, by omega, fun k hk => ?_⟩
  rcases List.mem_cons.mp hk with q | q
  · omega
  · have := List.mem_singleton.mp q; omega
theorem WR_sm (hne : ne ≤ 60) (hto : to ≤ 60) (hb1 : bkL ne kd sc ln 1 0) (hb5 : bkL ne kd sc ln 5 5) (hbJ : bkJ ne kd sc ln tx) : smL ne (to - fr) sc (WR kd sc ln tx ask fr to ne) := by
  intro s l h
  unfold WR at h
  rcases mn_or (mn (wayP kd sc ln tx ask 1 0 to ne fr) (wayP kd sc ln tx ask 5 5 to ne fr)) (jout kd sc ln tx ask fr to ne ne) with q | q
  · rw [q] at h
    rcases mn_or (wayP kd sc ln tx ask 1 0 to ne fr) (wayP kd sc ln tx ask 5 5 to ne fr) with q2 | q2
    · rw [q2] at h; exact wayP_sm hne hto hb1 s l h
    · rw [q2] at h; exact wayP_sm hne hto hb5 s l h
  · rw [q] at h; exact jout_sm hbJ s l h
theorem head_P {s : Nat} {l : List Nat} {inn lst : Int32} (hb : bkL ne kd sc ln inn lst) (h : wayP kd sc ln tx ask inn lst to ne fr = some (s, l)) : (l.length = 1 → kd (l.headD 0) = lst) ∧ (2 ≤ l.length → kd (l.headD 0) = inn) ∧ 1 ≤ l.length := by
  obtain ⟨m, k, l', h1, h2, h3, h4, h5, h6, h7, h8, h9⟩ := wayP_s hb h
  rw [h3] at h8 h9 ⊢
  exact ⟨h8, h9, by rw [List.length_cons]; omega⟩
theorem ne_PG (hne : ne ≤ 60) (hto : to ≤ 60) (hb1 : bkL ne kd sc ln 1 0) (hb5 : bkL ne kd sc ln 5 5) {s s' : Nat} {l l' : List Nat} (h1 : (wayP kd sc ln tx ask 1 0 to ne fr) = some (s, l)) (h2 : (wayP kd sc ln tx ask 5 5 to ne fr) = some (s', l')) : l.headD 0 ≠ l'.headD 0 := by
  obtain ⟨a1, a2, a3⟩ := head_P hb1 h1
  obtain ⟨b1, b2, b3⟩ := head_P hb5 h2
  intro e
  have hg : kd (l'.headD 0) = 5 := by
    rcases Nat.lt_or_ge l'.length 2 with q | q
    · exact b1 (by omega)
    · exact b2 q
  rcases Nat.lt_or_ge l.length 2 with q | q
  · have := a1 (by omega)
    rw [e, hg] at this
    exact absurd this (by decide)
  · have := a2 q
    rw [e, hg] at this
    exact absurd this (by decide)
theorem key_PG (hne : ne ≤ 60) (hto : to ≤ 60) (hb1 : bkL ne kd sc ln 1 0) (hb5 : bkL ne kd sc ln 5 5) : keyN (wayP kd sc ln tx ask 1 0 to ne fr) = keyN (wayP kd sc ln tx ask 5 5 to ne fr) → (wayP kd sc ln tx ask 1 0 to ne fr) = none ∧ (wayP kd sc ln tx ask 5 5 to ne fr) = none := by
  intro hk
  have s1 := wayP_sm (fr := fr) (tx := tx) (ask := ask) hne hto hb1
  have s2 := wayP_sm (fr := fr) (tx := tx) (ask := ask) hne hto hb5
  have k1 := smL_key hne (by omega) s1
  have k2 := smL_key hne (by omega) s2
  cases e1 : (wayP kd sc ln tx ask 1 0 to ne fr) with
  | none =>
    cases e2 : (wayP kd sc ln tx ask 5 5 to ne fr) with
    | none => exact ⟨rfl, rfl⟩
    | some y =>
      have := k2 (by rw [e2]; exact fun z => by cases z)
      rw [e1, keyN] at hk
      omega
  | some x =>
    cases e2 : (wayP kd sc ln tx ask 5 5 to ne fr) with
    | none =>
      have := k1 (by rw [e1]; exact fun z => by cases z)
      rw [e2, keyN] at hk
      omega
    | some y =>
      obtain ⟨s, l⟩ := x
      obtain ⟨s', l'⟩ := y
      exact absurd (smL_head hne (by omega) s1 s2 e1 e2 hk).2 (ne_PG hne hto hb1 hb5 e1 e2)
theorem hdJ_X {inn lst : Int32} (hb : bkL ne kd sc ln inn lst) (hi : ¬ inn = 0) : hdJ ne kd (wayP kd sc ln tx ask inn lst to ne fr) := by
  intro s b0 L1 e hl h0
  obtain ⟨-, a2, -⟩ := head_P hb e
  have := a2 (by omega)
  rw [List.headD_cons, h0] at this
  exact hi this.symm
theorem key_XJ {inn lst : Int32} (hne : ne ≤ 60) (hto : to ≤ 60) (hb : bkL ne kd sc ln inn lst) (hi : ¬ inn = 0) (hbJ : bkJ ne kd sc ln tx) : keyN (wayP kd sc ln tx ask inn lst to ne fr) = keyN (jout kd sc ln tx ask fr to ne ne) → wayP kd sc ln tx ask inn lst to ne fr = none ∧ (jout kd sc ln tx ask fr to ne ne) = none := by
  intro hk
  have s1 := wayP_sm (fr := fr) (tx := tx) (ask := ask) hne hto hb
  have s2 := jout_sm (ask := ask) (fr := fr) (to := to) hbJ
  have k1 := smL_key hne (by omega) s1
  have k2 := smL_key hne (by omega) s2
  cases e1 : wayP kd sc ln tx ask inn lst to ne fr with
  | none =>
    cases e2 : (jout kd sc ln tx ask fr to ne ne) with
    | none => exact ⟨rfl, rfl⟩
    | some y =>
      have := k2 (by rw [e2]; exact fun z => by cases z)
      rw [e1, keyN] at hk
      omega
  | some x =>
    cases e2 : (jout kd sc ln tx ask fr to ne ne) with
    | none =>
      have := k1 (by rw [e1]; exact fun z => by cases z)
      rw [e2, keyN] at hk
      omega
    | some y =>
      obtain ⟨s, l⟩ := x
      obtain ⟨s', l'⟩ := y
      obtain ⟨g1, g2⟩ := smL_head hne (by omega) s1 s2 e1 e2 hk
      obtain ⟨w', t', h1, h2, h3, h4, h5, h6, h7⟩ := jout_L (tx := tx) (ask := ask) (fr := fr) (to := to) hbJ ne (Nat.le_refl ne) s' l' e2
      obtain ⟨-, a2, -⟩ := head_P hb e1
      rw [h1] at g1 g2
      have := a2 (by rw [g1]; simp)
      rw [g2, List.headD_cons, h6] at this
      exact absurd this.symm hi
/-- which of the three is the best -/
theorem WR_pick (hne : ne ≤ 60) (hto : to ≤ 60) (hb1 : bkL ne kd sc ln 1 0) (hb5 : bkL ne kd sc ln 5 5) (hbJ : bkJ ne kd sc ln tx) {b : Nat} (hb : b = if (if keyN (jout kd sc ln tx ask fr to ne ne) < keyN (wayP kd sc ln tx ask 5 5 to ne fr) then keyN (jout kd sc ln tx ask fr to ne ne) else keyN (wayP kd sc ln tx ask 5 5 to ne fr)) < keyN (wayP kd sc ln tx ask 1 0 to ne fr) then (if keyN (jout kd sc ln tx ask fr to ne ne) < keyN (wayP kd sc ln tx ask 5 5 to ne fr) then keyN (jout kd sc ln tx ask fr to ne ne) else keyN (wayP kd sc ln tx ask 5 5 to ne fr)) else keyN (wayP kd sc ln tx ask 1 0 to ne fr)) : (b = 2147483647 → WR kd sc ln tx ask fr to ne = none) ∧ (¬ b = 2147483647 → b = keyN (jout kd sc ln tx ask fr to ne ne) → WR kd sc ln tx ask fr to ne = (jout kd sc ln tx ask fr to ne ne) ∧ (jout kd sc ln tx ask fr to ne ne) ≠ none) ∧ (¬ b = 2147483647 → ¬ b = keyN (jout kd sc ln tx ask fr to ne ne) → b = keyN (wayP kd sc ln tx ask 1 0 to ne fr) → WR kd sc ln tx ask fr to ne = (wayP kd sc ln tx ask 1 0 to ne fr) ∧ (wayP kd sc ln tx ask 1 0 to ne fr) ≠ none) ∧ (¬ b = 2147483647 → ¬ b = keyN (jout kd sc ln tx ask fr to ne ne) → ¬ b = keyN (wayP kd sc ln tx ask 1 0 to ne fr) → WR kd sc ln tx ask fr to ne = (wayP kd sc ln tx ask 5 5 to ne fr) ∧ (wayP kd sc ln tx ask 5 5 to ne fr) ≠ none ∧ b = keyN (wayP kd sc ln tx ask 5 5 to ne fr)) := pick3 (smL_key hne (by omega) (wayP_sm (fr := fr) hne hto hb1)) (smL_key hne (by omega) (wayP_sm (fr := fr) hne hto hb5)) (smL_key hne (show to - fr ≤ 60 by omega) (jout_sm hbJ)) (key_PG hne hto hb1 hb5) (key_XJ hne hto hb1 (by decide) hbJ) (key_XJ hne hto hb5 (by decide) hbJ) hb
theorem keyN_le {n : Nat} {r : WL} (hne : ne ≤ 60) (hn : n ≤ 60) (h : smL ne n sc r) : keyN r < 2147483648 := by
  by_cases q : r = none
  · rw [q, keyN]; omega
  · have := smL_key hne hn h q; omega
/-- the class drafts a word -/
theorem draftWord_ok {es : List Nat} {ak asc al ax dr gc gp pc pp tb : Nat → Int32} {wo su c0 c1 c2 L0 V0 : Int32} (hN : 9000 ≤ N) (hne : ne ≤ 60) (hto : to ≤ 60) (hfr : fr < to) (hb1 : bkL ne kd sc ln 1 0) (hb5 : bkL ne kd sc ln 5 5) (hbJ : bkJ ne kd sc ln tx) (hA : rwC ne kd sc ln tx ak asc al ax) (he : es.length + (to - fr) ≤ 60) (hd : ar dr (es.map nI)) : ∃ (z dd wo' su' c0' c1' c2' L V : Int32) (dr' gc' gp' tb' pc' pp' : Nat → Int32), jf_Planner_draftWord N (nI fr) (nI to) (nI ne) 5 5 1 0 ak al ax asc ask (nI es.length) wo su c0 c1 c2 L0 V0 dr gc gp tb pc pp = some (z, dd, wo', su', c0', c1', c2', L, V, dr', gc', gp', tb', pc', pp') ∧ (WR kd sc ln tx ask fr to ne = none → z = 0) ∧ (∀ s l, WR kd sc ln tx ask fr to ne = some (s, l) → z = 1 ∧ dd = nI (es ++ l).length ∧ ar dr' ((es ++ l).map nI)) := by
  obtain ⟨pc', pp', p1, p2⟩ := solve_ok (N := N) (ask := ask) (tx := tx) (co := pc) (pi := pp) (inn := 1) (lst := 0) (by omega) hne hto hfr hb1 hA
  obtain ⟨gc', gp', g1, g2⟩ := solve_ok (N := N) (ask := ask) (tx := tx) (co := gc) (pi := gp) (inn := 5) (lst := 5) (by omega) hne hto hfr hb5 hA
  obtain ⟨x4, wo', su', c0', c1', c2', L, V, tb', j1, j2, j3⟩ := cJoin_ok (N := N) (ask := ask) (tx := tx) (wo := wo) (su := su) (c0 := c0) (c1 := c1) (c2 := c2) (L0 := L0) (V0 := V0) (a := tb) hN hne hto hfr hbJ hA
  rw [wayP_key hb1] at p1
  rw [wayP_key hb5] at g1
  have l1 := keyN_le hne (by omega) (wayP_sm (fr := fr) (tx := tx) (ask := ask) hne hto hb1)
  have l2 := keyN_le hne (by omega) (wayP_sm (fr := fr) (tx := tx) (ask := ask) hne hto hb5)
  have l3 := keyN_le hne (by omega) (jout_sm (ask := ask) (fr := fr) (to := to) hbJ)
  have hmin : ∀ a b : Nat, a < 2147483648 → b < 2147483648 → (if a < b then a else b) < 2147483648 := by
    intro a b h1 h2
    by_cases q : a < b
    · rw [if_pos q]; exact h1
    · rw [if_neg q]; exact h2
  obtain ⟨b, hb⟩ : ∃ b, b = if (if keyN (jout kd sc ln tx ask fr to ne ne) < keyN (wayP kd sc ln tx ask 5 5 to ne fr) then keyN (jout kd sc ln tx ask fr to ne ne) else keyN (wayP kd sc ln tx ask 5 5 to ne fr)) < keyN (wayP kd sc ln tx ask 1 0 to ne fr) then (if keyN (jout kd sc ln tx ask fr to ne ne) < keyN (wayP kd sc ln tx ask 5 5 to ne fr) then keyN (jout kd sc ln tx ask fr to ne ne) else keyN (wayP kd sc ln tx ask 5 5 to ne fr)) else keyN (wayP kd sc ln tx ask 1 0 to ne fr) := ⟨_, rfl⟩
  have hbl : b < 2147483648 := by rw [hb]; exact hmin _ _ (hmin _ _ l3 l2) l1
  obtain ⟨w1, w2, w3, w4⟩ := WR_pick (ask := ask) (fr := fr) hne hto hb1 hb5 hbJ hb
  have hbe : (if (if x4 < nI (keyN (wayP kd sc ln tx ask 5 5 to ne fr)) then x4 else nI (keyN (wayP kd sc ln tx ask 5 5 to ne fr))) < nI (keyN (wayP kd sc ln tx ask 1 0 to ne fr)) then (if x4 < nI (keyN (wayP kd sc ln tx ask 5 5 to ne fr)) then x4 else nI (keyN (wayP kd sc ln tx ask 5 5 to ne fr))) else nI (keyN (wayP kd sc ln tx ask 1 0 to ne fr))) = nI b := by
    rw [j2, nI_min l3 l2, nI_min (hmin _ _ l3 l2) l1, ← hb]
  rw [jf_Planner_draftWord, p1, Option.bind_some]
  dsimp only
  rw [g1, Option.bind_some]
  dsimp only
  rw [j1, Option.bind_some]
  dsimp only
  rw [hbe]
  by_cases hM : b = 2147483647
  · rw [if_pos (show nI b = 2147483647 from by rw [hM]; rfl)]
    refine ⟨0, _, _, _, _, _, _, _, _, _, _, _, _, _, _, rfl, fun _ => rfl, fun s l h => ?_⟩
    rw [w1 hM] at h
    cases h
  · rw [if_neg (show ¬ nI b = 2147483647 from p_ne (b := 2147483647) hM hbl (by omega)), j2]
    by_cases hJ : b = keyN (jout kd sc ln tx ask fr to ne ne)
    · obtain ⟨q1, q2⟩ := w2 hM hJ
      rw [if_pos (by rw [hJ])]
      cases hj : (jout kd sc ln tx ask fr to ne ne) with
      | none => exact absurd hj q2
      | some x =>
        obtain ⟨t, l⟩ := x
        obtain ⟨w', s', h1, h2, h3, h4, h5, h6, h7⟩ := jout_L (tx := tx) (ask := ask) (fr := fr) (to := to) hbJ ne (Nat.le_refl ne) t l hj
        subst h1
        obtain ⟨y1, y2⟩ := j3 t w' s' hj
        obtain ⟨d1, d2⟩ := draftEntry_ok (k := w') (es := es) (dr := dr) (by omega) hd
        obtain ⟨d3, d4⟩ := draftEntry_ok (k := s') (es := es ++ [w']) (dr := upd dr es.length (nI w')) (by rw [List.length_append, List.length_singleton]; omega) d2
        rw [List.append_assoc, List.singleton_append] at d3 d4
        rw [jf_Join_word, Option.bind_some, y1, d1, Option.bind_some]
        dsimp only
        rw [jf_Join_suffix, Option.bind_some, y2, d3, Option.bind_some]
        refine ⟨1, _, _, _, _, _, _, _, _, _, _, _, _, _, _, rfl, fun h => ?_, fun s l h => ?_⟩
        · rw [q1, hj] at h; cases h
        · rw [q1, hj] at h; cases h; exact ⟨rfl, rfl, d4⟩
    · rw [if_neg (p_ne hJ hbl l3)]
      by_cases hP : b = keyN (wayP kd sc ln tx ask 1 0 to ne fr)
      · obtain ⟨q1, q2⟩ := w3 hM hJ hP
        rw [if_pos (by rw [hP])]
        cases hp : (wayP kd sc ln tx ask 1 0 to ne fr) with
        | none => exact absurd hp q2
        | some x =>
          obtain ⟨t, l⟩ := x
          obtain ⟨m, k, l', h1, h2, -⟩ := wayP_s hb1 hp
          obtain ⟨dr', r1, r2⟩ := dch_prefixed (tx := tx) (ask := ask) (al := al) (pi := pp') hne hto hb1 (show to - fr ≤ to by omega) (fun k hk => (hA k hk).2.2.1) p2 (to - fr) fr fr N es dr (by omega) (by omega) (Nat.le_refl _) (Nat.le_refl _) (by omega) hd he (Or.inr (by rw [h1]; exact fun z => by cases z))
          rw [← h2] at r1 r2
          rw [jf_Planner_draftChain_prefixed, r1, Option.bind_some]
          refine ⟨1, _, _, _, _, _, _, _, _, _, _, _, _, _, _, rfl, fun h => ?_, fun s l h => ?_⟩
          · rw [q1, hp] at h; cases h
          · rw [q1, hp] at h; cases h; exact ⟨rfl, rfl, r2⟩
      · obtain ⟨q1, q2, q3⟩ := w4 hM hJ hP
        rw [if_neg (p_ne hP hbl l1)]
        cases hp : (wayP kd sc ln tx ask 5 5 to ne fr) with
        | none => exact absurd hp q2
        | some x =>
          obtain ⟨t, l⟩ := x
          obtain ⟨m, k, l', h1, h2, -⟩ := wayP_s hb5 hp
          obtain ⟨dr', r1, r2⟩ := dch_glued (tx := tx) (ask := ask) (al := al) (pi := gp') hne hto hb5 (show to - fr ≤ to by omega) (fun k hk => (hA k hk).2.2.1) g2 (to - fr) fr fr N es dr (by omega) (by omega) (Nat.le_refl _) (Nat.le_refl _) (by omega) hd he (Or.inr (by rw [h1]; exact fun z => by cases z))
          rw [← h2] at r1 r2
          rw [jf_Planner_draftChain_glued, r1, Option.bind_some]
          refine ⟨1, _, _, _, _, _, _, _, _, _, _, _, _, _, _, rfl, fun h => ?_, fun s l h => ?_⟩
          · rw [q1, hp] at h; cases h
          · rw [q1, hp] at h; cases h; exact ⟨rfl, rfl, r2⟩
/-- the reference lays the best way down -/
theorem made_loop {es l : List Nat} {bm le lm bs tm ts ms : Int32} {be te tr wy wm ws : Nat → Int32} (hl60 : es.length + l.length ≤ 60) (hb : ar be (l.map nI)) (hbm : bm = nI l.length) : ∀ (post pre : List Nat) (g : Nat) (md : Nat → Int32), l = pre ++ post → post.length < g → ar md ((es ++ pre).map nI) → ∃ md', jf_Model_plans_b123 g (nI pre.length) le lm bm bs tm ts (nI (es ++ pre).length) ms be md te tr wy wm ws = jf_Model_plans_b162 le lm bm bs tm ts (nI (es ++ l).length) ms be md' te tr wy wm ws ∧ ar md' ((es ++ l).map nI) := by
  intro post
  induction post with
  | nil =>
    intro pre g md hl hg ha
    obtain ⟨g, rfl⟩ : ∃ y, g = y + 1 := ⟨g - 1, by omega⟩
    rw [List.append_nil] at hl
    subst hl
    refine ⟨md, ?_, ha⟩
    rw [jf_Model_plans_b123, hbm, if_pos (p_yle (Nat.le_refl _) (by omega))]
  | cons k post ih =>
    intro pre g md hl hg ha
    obtain ⟨g, rfl⟩ : ∃ y, g = y + 1 := ⟨g - 1, by omega⟩
    have hll : l.length = pre.length + (post.length + 1) := by rw [hl, List.length_append, List.length_cons]
    have hbk : be pre.length = nI k := by
      refine hb pre.length _ ?_
      rw [hl, List.map_append, List.getElem?_append_right (by rw [List.length_map]; exact Nat.le_refl _), List.length_map, Nat.sub_self]
      rfl
    have hp := ar_push (v := nI k) ha
    rw [List.length_map] at hp
    rw [List.length_cons] at hg
    have hel : (es ++ pre).length = es.length + pre.length := List.length_append
    obtain ⟨md', r1, r2⟩ := ih (pre ++ [k]) g (upd md (es ++ pre).length (nI k)) (by rw [hl, List.append_assoc, List.singleton_append]) (by omega) (by rw [← List.append_assoc, List.map_append (l₂ := [k])]; exact hp)
    rw [← List.append_assoc, List.length_append (bs := [k]), List.length_append (as := es ++ pre) (bs := [k]), List.length_singleton] at r1
    refine ⟨md', ?_, r2⟩
    rw [jf_Model_plans_b123, hbm, if_neg (p_nle (by omega) (by omega)), p_ga (by omega) (by omega), p_ga (by omega) (by omega), p_cl (by omega), p_cl (by omega), hbk, nI_1, nI_1, ← hbm]
    exact r1
theorem plans_ok {es : List Nat} {mk mc ml mx be md te tr wy wm ws : Nat → Int32} {le lm bm bs tm ts : Int32} (hN : 9000 ≤ N) (hne : ne ≤ 60) (hto : to ≤ 60) (hfr : fr < to) (hask : ∀ j, j < to → ∃ m, m < 128 ∧ ask j = nI m) (hb1 : bkL ne kd sc ln 1 0) (hb5 : bkL ne kd sc ln 5 5) (hbJ : bkJ ne kd sc ln tx) (hA : rwM ne kd sc ln tx mk mc ml mx) (he : es.length + (to - fr) ≤ 60) (hd : ar md (es.map nI)) : ∃ (z le' lm' bm' bs' tm' ts' mm' ms' : Int32) (be' md' te' tr' wy' wm' ws' : Nat → Int32), jf_Model_plans N (nI fr) (nI to) (nI ne) ask mk mc ml mx le lm bm bs tm ts (nI es.length) (nI (sumS sc es)) be md te tr wy wm ws = some (z, le', lm', bm', bs', tm', ts', mm', ms', be', md', te', tr', wy', wm', ws') ∧ (WR kd sc ln tx ask fr to ne = none → z = 0) ∧ (∀ s l, WR kd sc ln tx ask fr to ne = some (s, l) → z = 1 ∧ mm' = nI (es ++ l).length ∧ ms' = nI (sumS sc (es ++ l)) ∧ ar md' ((es ++ l).map nI)) := by
  obtain ⟨bm1, bs1, tm1, ts1, be1, tr1, wy1, wm1, ws1, r1, r2⟩ := rows_ok (N := N) (inn := 1) (lst := 0) (ask := ask) (r := none) (x3 := 0) (bm := 0) (bs := 0) (tm := tm) (ts := ts) (be := be) (tr := tr) (way := wy) (wm := wm) (ws := ws) (by omega) hne hb1 hA hto hfr hask (Or.inl ⟨rfl, rfl, rfl⟩) rfl (fun s l s' l' _ h => by cases h)
  rw [none_mn] at r2
  obtain ⟨bm2, bs2, tm2, ts2, be2, tr2, wy2, wm2, ws2, r3, r4⟩ := rows_ok (N := N) (inn := 5) (lst := 5) (ask := ask) (r := (wayP kd sc ln tx ask 1 0 to ne fr)) (x3 := 1) (bm := bm1) (bs := bs1) (tm := tm1) (ts := ts1) (be := be1) (tr := tr1) (way := wy1) (wm := wm1) (ws := ws1) (by omega) hne hb5 hA hto hfr hask (Or.inr ⟨rfl, rfl, rfl⟩) r2 (fun s l s' l' h1 h2 => fun q => ne_PG hne hto hb1 hb5 h2 h1 q.symm)
  have hhd : hdJ ne kd (mn (wayP kd sc ln tx ask 1 0 to ne fr) (wayP kd sc ln tx ask 5 5 to ne fr)) := by
    intro s b0 L1 e hl
    rcases mn_or (wayP kd sc ln tx ask 1 0 to ne fr) (wayP kd sc ln tx ask 5 5 to ne fr) with q | q
    · rw [q] at e; exact hdJ_X hb1 (by decide) s b0 L1 e hl
    · rw [q] at e; exact hdJ_X hb5 (by decide) s b0 L1 e hl
  obtain ⟨le', lm', bm', bs', tm', ts', be', te', tr', r5, r6⟩ := mj_out (N := N) (ask := ask) (r := mn (wayP kd sc ln tx ask 1 0 to ne fr) (wayP kd sc ln tx ask 5 5 to ne fr)) (mm := nI es.length) (ms := nI (sumS sc es)) (md := md) (wy := wy2) (wm := wm2) (ws := ws2) hN hne hto hfr hbJ hA hhd ne 0 N le lm bm2 bs2 tm2 ts2 be2 te tr2 (by omega) (by omega) (by rw [jout, mn_none]; exact r4)
  rw [jf_Model_plans, r1, Option.bind_some]
  dsimp only
  rw [r3, Option.bind_some]
  dsimp only
  rw [show jf_Model_plans_b26 N (nI fr) (nI to) (nI ne) ask mk mc ml mx N 0 le lm bm2 bs2 tm2 ts2 (nI es.length) (nI (sumS sc es)) be2 md te tr2 wy2 wm2 ws2 = _ from r5, jf_Model_plans_b112]
  have hW : bsR (WR kd sc ln tx ask fr to ne) bm' bs' be' := r6
  have hsm := WR_sm (ask := ask) (fr := fr) hne hto hb1 hb5 hbJ
  cases hw : WR kd sc ln tx ask fr to ne with
  | none =>
    rw [hw] at hW
    rw [if_pos (show bm' = 0 from hW)]
    refine ⟨0, _, _, _, _, _, _, _, _, _, _, _, _, _, _, _, rfl, fun _ => rfl, fun s l h => ?_⟩
    cases h
  | some x =>
    obtain ⟨s, l⟩ := x
    rw [hw] at hW
    obtain ⟨h1, h2, h3, h4, h5, h6, h7⟩ := hW
    obtain ⟨-, h8, h9, -⟩ := hsm s l hw
    rw [if_neg (by rw [h1]; exact p_ne (b := 0) (by omega) (by omega) (by omega))]
    obtain ⟨md', m1, m2⟩ := made_loop (es := es) (l := l) (bm := bm') (le := le') (lm := lm') (bs := bs') (tm := tm') (ts := ts') (ms := nI (sumS sc es)) (te := te') (tr := tr') (wy := wy2) (wm := wm2) (ws := ws2) (by omega) h3 h1 l [] N md rfl (by omega) (by rw [List.append_nil]; exact hd)
    rw [List.append_nil] at m1
    rw [show jf_Model_plans_b123 N 0 le' lm' bm' bs' tm' ts' (nI es.length) (nI (sumS sc es)) be' md te' tr' wy2 wm2 ws2 = _ from m1, jf_Model_plans_b162, h2, nI_add]
    refine ⟨1, _, _, _, _, _, _, _, _, _, _, _, _, _, _, _, rfl, (fun h => by cases h), fun s' l' h => ?_⟩
    cases h
    exact ⟨rfl, rfl, by rw [sumS_app, h9], m2⟩
end WD
