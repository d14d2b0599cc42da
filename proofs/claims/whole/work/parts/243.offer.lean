/-! the better one of two ways -/
/-- a way: its strokes, its entries -/
abbrev WL := Option (Nat × List Nat)
def keyW (s : Nat) (l : List Nat) : Nat := (s * 64 + l.length) * 64 + l.headD 0
def keyN : WL → Nat
  | none => 2147483647
  | some (s, l) => keyW s l
def mn (a b : WL) : WL := match b with
  | none => a
  | some (s, l) => match a with
    | none => some (s, l)
    | some (s', l') => if keyW s l < keyW s' l' then some (s, l) else some (s', l')
theorem mn_none (a : WL) : mn a none = a := rfl
theorem none_mn (b : WL) : mn none b = b := by
  cases b with
  | none => rfl
  | some x => rfl
theorem mn_assoc (a b c : WL) : mn (mn a b) c = mn a (mn b c) := by
  cases c with
  | none => rfl
  | some z =>
    cases b with
    | none => rw [mn_none, none_mn]
    | some y =>
      cases a with
      | none => rw [none_mn, none_mn]
      | some x =>
        obtain ⟨s1, l1⟩ := x
        obtain ⟨s2, l2⟩ := y
        obtain ⟨s3, l3⟩ := z
        unfold mn
        dsimp only
        generalize h1 : keyW s1 l1 = k1
        generalize h2 : keyW s2 l2 = k2
        generalize h3 : keyW s3 l3 = k3
        by_cases c1 : k2 < k1
        · rw [if_pos c1]
          dsimp only
          rw [h2]
          by_cases c2 : k3 < k2
          · rw [if_pos c2]
            dsimp only
            rw [h3, if_pos (by omega)]
          · rw [if_neg c2]
            dsimp only
            rw [h2, if_pos c1]
        · rw [if_neg c1]
          dsimp only
          by_cases c2 : k3 < k2
          · rw [if_pos c2]
            dsimp only
            rw [h3, h1]
          · rw [if_neg c2]
            dsimp only
            rw [h2, h1, if_neg c1, if_neg (by omega)]
/-- the reference's best way so far -/
def bsR (r : WL) (bm bs : Int32) (be : Nat → Int32) : Prop := match r with
  | none => bm = 0
  | some (s, l) => bm = nI l.length ∧ bs = nI s ∧ ar be (l.map nI) ∧ 1 ≤ l.length ∧ l.length ≤ 60 ∧ s ≤ 600 ∧ ∀ k, k ∈ l → k < 60
theorem of_copy {n : Nat} {tr : Nat → Int32} {bm bs : Int32} (hn : n ≤ 60) : ∀ (d i g : Nat) (be : Nat → Int32), i + d = n → d < g → (∀ q, q < i → be q = tr q) → ∃ be', jf_Model_offers_b156 (nI n) tr g (nI i) bm bs be = some (bm, bs, be') ∧ ∀ q, q < n → be' q = tr q := by
  intro d
  induction d with
  | zero =>
    intro i g be hi hg hq
    obtain ⟨g, rfl⟩ : ∃ y, g = y + 1 := ⟨g - 1, by omega⟩
    refine ⟨be, ?_, fun q h => hq q (by omega)⟩
    rw [jf_Model_offers_b156, if_pos (p_yle (by omega) (by omega))]
  | succ d ih =>
    intro i g be hi hg hq
    obtain ⟨g, rfl⟩ : ∃ y, g = y + 1 := ⟨g - 1, by omega⟩
    rw [jf_Model_offers_b156, if_neg (p_nle (by omega) (by omega)), p_ga (by omega) (by omega), p_ga (by omega) (by omega), p_cl (by omega), nI_1]
    exact ih (i + 1) g (upd be i (tr i)) (by omega) (by omega) (fun q h => by
      by_cases e : q = i
      · rw [e, p_upd_s]
      · rw [p_upd_n e]; exact hq q (by omega))
theorem ar_cong {a b : Nat → Int32} {l : List Int32} (h : ar a l) (e : ∀ q, q < l.length → b q = a q) : ar b l := by
  intro i x hx
  have hi : i < l.length := by
    rcases Nat.lt_or_ge i l.length with w | w
    · exact w
    · rw [List.getElem?_eq_none w] at hx; cases hx
  rw [e i hi]
  exact h i x hx
theorem of_take {N : Nat} {l : List Nat} {s : Nat} {z bm bs : Int32} {tr be : Nat → Int32} (hN : 100 ≤ N) (hl : l.length ≤ 60) (ht : ar tr (l.map nI)) (hz : ¬ z = 0) : ∃ be', jf_Model_offers_b133 N (nI l.length) (nI s) tr z bm bs be = some (nI l.length, nI s, be') ∧ ar be' (l.map nI) := by
  obtain ⟨be', h1, h2⟩ := of_copy (tr := tr) (bm := nI l.length) (bs := nI s) hl l.length 0 N be (by omega) (by omega) (fun q h => absurd h (Nat.not_lt_zero q))
  refine ⟨be', ?_, ar_cong ht (fun q h => h2 q (by rw [List.length_map] at h; exact h))⟩
  rw [jf_Model_offers_b133, if_neg hz]
  exact h1
theorem offers_ok {N s t0 : Nat} {T1 : List Nat} {r : WL} {bm bs : Int32} {tr be : Nat → Int32} (hN : 100 ≤ N) (hT : (t0 :: T1).length ≤ 60) (hs : s ≤ 600) (hk : ∀ k, k ∈ t0 :: T1 → k < 60) (ht : ar tr ((t0 :: T1).map nI)) (hr : bsR r bm bs be) (hH : ∀ b0 L1, r = some (s, b0 :: L1) → (t0 :: T1).length = (b0 :: L1).length → t0 = b0 → ∃ x x', T1 = [x] ∧ L1 = [x'] ∧ x' < x) : ∃ bm' bs' be', jf_Model_offers N (nI (t0 :: T1).length) (nI s) tr bm bs be = some (bm', bs', be') ∧ bsR (mn r (some (s, t0 :: T1))) bm' bs' be' := by
  have ht0 := hk t0 List.mem_cons_self
  have hlen : 1 ≤ (t0 :: T1).length := by rw [List.length_cons]; omega
  have take : ∀ z : Int32, ¬ z = 0 → mn r (some (s, t0 :: T1)) = some (s, t0 :: T1) → ∃ bm' bs' be', jf_Model_offers_b133 N (nI (t0 :: T1).length) (nI s) tr z bm bs be = some (bm', bs', be') ∧ bsR (mn r (some (s, t0 :: T1))) bm' bs' be' := by
    intro z hz h
    obtain ⟨be', h1, h2⟩ := of_take (N := N) (s := s) (bm := bm) (bs := bs) (be := be) hN hT ht hz
    rw [h]
    exact ⟨_, _, _, h1, rfl, rfl, h2, hlen, hT, hs, hk⟩
  have keep : mn r (some (s, t0 :: T1)) = r → ∃ bm' bs' be', jf_Model_offers_b133 N (nI (t0 :: T1).length) (nI s) tr 0 bm bs be = some (bm', bs', be') ∧ bsR (mn r (some (s, t0 :: T1))) bm' bs' be' := by
    intro h
    rw [h, jf_Model_offers_b133, if_pos rfl]
    exact ⟨_, _, _, rfl, hr⟩
  have take40 : mn r (some (s, t0 :: T1)) = some (s, t0 :: T1) → ∃ bm' bs' be', jf_Model_offers_b40 N (nI (t0 :: T1).length) (nI s) tr bm bs be = some (bm', bs', be') ∧ bsR (mn r (some (s, t0 :: T1))) bm' bs' be' := by
    intro h
    rw [jf_Model_offers_b40, jf_Model_offers_b45, if_neg (by decide)]
    exact take 1 (by decide) h
  cases r with
  | none =>
    rw [jf_Model_offers, if_pos (show bm = 0 from hr)]
    exact take40 rfl
  | some x =>
    obtain ⟨s', l'⟩ := x
    obtain ⟨r1, r2, r3, r4, r5, r6, r7⟩ := id hr
    cases l' with
    | nil => rw [List.length_nil] at r4; omega
    | cons b0 L1 =>
      have hb0 := r7 b0 List.mem_cons_self
      have hmn : mn (some (s', b0 :: L1)) (some (s, t0 :: T1)) = if (s * 64 + (t0 :: T1).length) * 64 + t0 < (s' * 64 + (b0 :: L1).length) * 64 + b0 then some (s, t0 :: T1) else some (s', b0 :: L1) := rfl
      rw [jf_Model_offers, r1, r2, if_neg (show ¬ nI (b0 :: L1).length = 0 from p_ne (b := 0) (by omega) (by omega) (by omega))]
      rw [r1, r2] at take keep take40
      rcases Nat.lt_trichotomy s s' with h | h | h
      · rw [if_pos (p_ylt h (by omega))]
        exact take40 (by rw [hmn, if_pos (by omega)])
      · subst h
        rw [if_neg (p_nlt (Nat.le_refl _) (by omega)), if_pos rfl]
        rcases Nat.lt_or_ge (t0 :: T1).length (b0 :: L1).length with g | g
        · rw [if_neg (p_nle g (by omega))]
          exact take40 (by rw [hmn, if_pos (by omega)])
        · rw [if_pos (p_yle g (by omega)), jf_Model_offers_b44, jf_Model_offers_b45, if_pos rfl, if_pos rfl]
          by_cases e : (t0 :: T1).length = (b0 :: L1).length
          · obtain ⟨M, hM⟩ : ∃ y, N = y + 1 + 1 := ⟨N - 2, by omega⟩
            have h0 : tr 0 = nI t0 := ht 0 _ rfl
            have h0' : be 0 = nI b0 := r3 0 _ rfl
            have z0 : ¬ nI (t0 :: T1).length ≤ 0 := p_nle (b := 0) (by omega) (by omega)
            have g0 : ∀ {α : Type} (k : Option α), jga (0 : Int32) 60 k = k := fun k => p_ga (j := 0) (by omega) (by omega)
            have c0 : (0 : Int32).toNatClampNeg = 0 := by decide
            have b74 : ∀ g' : Nat, jf_Model_offers_b74 N (nI (t0 :: T1).length) (nI s) tr (g' + 1) 0 (nI (b0 :: L1).length) (nI s) be = if nI t0 = nI b0 then jf_Model_offers_b74 N (nI (t0 :: T1).length) (nI s) tr g' (0 + 1) (nI (b0 :: L1).length) (nI s) be else jf_Model_offers_b104 N (nI (t0 :: T1).length) (nI s) tr 0 (nI (b0 :: L1).length) (nI s) be := by
              intro g'
              rw [jf_Model_offers_b74, if_neg z0, g0, g0, c0, h0, h0']
            rw [if_pos (by rw [e])]
            have b74N : jf_Model_offers_b74 N (nI (t0 :: T1).length) (nI s) tr N 0 (nI (b0 :: L1).length) (nI s) be = if nI t0 = nI b0 then jf_Model_offers_b74 N (nI (t0 :: T1).length) (nI s) tr (M + 1) (0 + 1) (nI (b0 :: L1).length) (nI s) be else jf_Model_offers_b104 N (nI (t0 :: T1).length) (nI s) tr 0 (nI (b0 :: L1).length) (nI s) be := by
              have := b74 (M + 1)
              rw [← hM] at this
              exact this
            rw [b74N]
            by_cases et : t0 = b0
            · obtain ⟨x, x', X1, X2, X3⟩ := hH b0 L1 rfl e et
              subst X1 X2 et
              have hx := hk x (List.mem_cons_of_mem _ List.mem_cons_self)
              have h1 : tr 1 = nI x := ht 1 _ rfl
              have h1' : be 1 = nI x' := r3 1 _ rfl
              have z1 : ¬ nI [t0, x].length ≤ (0 + 1 : Int32) := p_nle (a := 2) (b := 1) (by omega) (by omega)
              have g1 : ∀ {α : Type} (k : Option α), jga (0 + 1 : Int32) 60 k = k := fun k => p_ga (j := 1) (by omega) (by omega)
              have c1 : (0 + 1 : Int32).toNatClampNeg = 1 := by decide
              rw [if_pos rfl, jf_Model_offers_b74, if_neg z1, g1, g1, c1, h1, h1', if_neg (p_ne (by omega) (by omega) (by omega)), jf_Model_offers_b104, if_neg z1, g1, g1, c1, h1, h1', if_pos (p_yle (by omega) (by omega)), jf_Model_offers_b131, jf_Model_offers_b132]
              exact keep (by rw [hmn, if_neg (by omega)])
            · rw [if_neg (p_ne et (by omega) (by omega)), jf_Model_offers_b104, if_neg z0, g0, g0, c0, h0, h0']
              rcases Nat.lt_or_ge t0 b0 with w | w
              · rw [if_neg (p_nle w (by omega)), jf_Model_offers_b132]
                exact take 1 (by decide) (by rw [hmn, if_pos (by omega)])
              · rw [if_pos (p_yle w (by omega)), jf_Model_offers_b131, jf_Model_offers_b132]
                exact keep (by rw [hmn, if_neg (by omega)])
          · rw [if_neg (p_ne e (by omega) (by omega))]
            exact keep (by rw [hmn, if_neg (by omega)])
      · rw [if_neg (p_nlt (by omega) (by omega)), if_neg (p_ne (by omega) (by omega) (by omega)), jf_Model_offers_b44, jf_Model_offers_b45, if_pos rfl, if_neg (p_ne (by omega) (by omega) (by omega))]
        exact keep (by rw [hmn, if_neg (by omega)])
theorem sumS_app {sc : Nat → Nat} : ∀ (a b : List Nat), sumS sc (a ++ b) = sumS sc a + sumS sc b := by
  intro a
  induction a with
  | nil => intro b; rw [List.nil_append, sumS, Nat.zero_add]
  | cons k a ih => intro b; rw [List.cons_append, sumS, sumS, ih, Nat.add_assoc]
theorem sumS_len {sc : Nat → Nat} : ∀ (a : List Nat), (∀ k, k ∈ a → sc k ≤ 5) → sumS sc a ≤ 5 * a.length := by
  intro a
  induction a with
  | nil => intro _; exact Nat.le_refl 0
  | cons k a ih =>
    intro h
    have h1 := ih (fun q hq => h q (List.mem_cons_of_mem _ hq))
    have h2 := h k List.mem_cons_self
    rw [sumS, List.length_cons]
    omega
/-- the best chain of a word -/
noncomputable def wayP (kd : Nat → Int32) (sc ln : Nat → Nat) (tx ask : Nat → Int32) (inn lst : Int32) (to : Nat) (ne fr : Nat) : WL := match BF kd sc ln tx ask inn lst to ne (to - fr) fr with
  | none => none
  | some (s, _, _) => some (s, wyl ln (BF kd sc ln tx ask inn lst to ne (to - fr)) (to - fr) fr)
section RW
variable {N ne : Nat} {kd : Nat → Int32} {sc : Nat → Nat} {st : Nat → Int32} {ln : Nat → Nat} {tx ask : Nat → Int32} {inn lst : Int32} {to : Nat}
theorem wayP_n {fr : Nat} (h : BF kd sc ln tx ask inn lst to ne (to - fr) fr = none) : wayP kd sc ln tx ask inn lst to ne fr = none := by
  unfold wayP
  rw [h]
theorem wayP_y {fr s m k : Nat} (h : BF kd sc ln tx ask inn lst to ne (to - fr) fr = some (s, m, k)) : wayP kd sc ln tx ask inn lst to ne fr = some (s, wyl ln (BF kd sc ln tx ask inn lst to ne (to - fr)) (to - fr) fr) := by
  unfold wayP
  rw [h]
theorem wayP_s {fr s : Nat} {l : List Nat} (hb : bkL ne kd sc ln inn lst) (h : wayP kd sc ln tx ask inn lst to ne fr = some (s, l)) : ∃ m k l', BF kd sc ln tx ask inn lst to ne (to - fr) fr = some (s, m, k) ∧ l = wyl ln (BF kd sc ln tx ask inn lst to ne (to - fr)) (to - fr) fr ∧ l = k :: l' ∧ l.length = m ∧ sumS sc l = s ∧ (∀ j, j ∈ l → j < ne) ∧ l.length ≤ to - fr ∧ (l.length = 1 → kd k = lst) ∧ (2 ≤ l.length → kd k = inn) := by
  cases hw : BF kd sc ln tx ask inn lst to ne (to - fr) fr with
  | none => rw [wayP_n hw] at h; cases h
  | some w =>
    obtain ⟨s0, m, k⟩ := w
    rw [wayP_y hw] at h
    injection h with h
    injection h with h1 h2
    subst h1
    obtain ⟨w1, w2, w3, w4, w5, w6, w7, w8⟩ := BF_ok hb (to - fr) (by omega) _ _ _ _ hw
    obtain ⟨l', l1, l2, l3, l4⟩ := wyl_ok hb (by omega) (to - fr) fr s0 m k (by omega) hw
    rw [← h2]
    rw [l1]
    refine ⟨m, k, l', rfl, rfl, rfl, l2, l3, l4, by omega, fun h => ?_, fun h => ?_⟩
    · rcases w8 with ⟨x1, x2, x3, x4⟩ | ⟨x1, x2, s', m', k', x3, x4, x5⟩
      · exact x2
      · have := (BF_ok hb (to - fr) (by omega) _ _ _ _ x3).2.2.2.2.2.1
        omega
    · rcases w8 with ⟨x1, x2, x3, x4⟩ | ⟨x1, x2, s', m', k', x3, x4, x5⟩
      · omega
      · exact x2
theorem wayP_key {fr : Nat} (hb : bkL ne kd sc ln inn lst) : encW (BF kd sc ln tx ask inn lst to ne (to - fr) fr) = keyN (wayP kd sc ln tx ask inn lst to ne fr) := by
  cases hw : BF kd sc ln tx ask inn lst to ne (to - fr) fr with
  | none => rw [wayP_n hw]; rfl
  | some w =>
    obtain ⟨s, m, k⟩ := w
    obtain ⟨m', k', l', h1, h2, h3, h4, -⟩ := wayP_s hb (wayP_y hw)
    rw [hw] at h1
    cases h1
    rw [wayP_y hw, encW, keyN, keyW, h4, h3]
    rfl
theorem tries_ok {k : Nat} {T : List Nat} {mc tr : Nat → Int32} (hk : k < 60) (hT : T.length < 60) (hc : mc k = nI (sc k)) (ht : ar tr (T.map nI)) : jf_Model_tries (nI k) mc (nI T.length) (nI (sumS sc T)) tr = some (nI (T ++ [k]).length, nI (sumS sc (T ++ [k])), upd tr T.length (nI k)) ∧ ar (upd tr T.length (nI k)) ((T ++ [k]).map nI) := by
  have hp := ar_push (v := nI k) ht
  rw [List.length_map] at hp
  refine ⟨?_, by rw [List.map_append]; exact hp⟩
  rw [jf_Model_tries, p_ga hT (by omega), p_ga (by omega) (by omega), p_cl (by omega), p_cl (by omega), hc, nI_1, nI_add, sumS_app, List.length_append, List.length_singleton]
  rfl
theorem mw_loop {fr : Nat} {bm bs : Int32} {be way wm ws mc ml : Nat → Int32} (hne : ne ≤ 60) (hto : to ≤ 60) (hb : bkL ne kd sc ln inn lst) (hA : ∀ k, k < ne → mc k = nI (sc k) ∧ ml k = nI (ln k)) (hB : ∀ r, fr + r < to → wyR (BF kd sc ln tx ask inn lst to ne (to - fr) (fr + r)) way wm ws r) : ∀ (f q g : Nat) (T : List Nat) (tr : Nat → Int32), fr + q ≤ to → to - (fr + q) ≤ f → f < g → ar tr (T.map nI) → T.length + (to - (fr + q)) ≤ 60 → (fr + q = to ∨ BF kd sc ln tx ask inn lst to ne (to - fr) (fr + q) ≠ none) → ∃ tr', jf_Model_rows_b327 N (nI fr) (nI to) mc ml g (nI q) bm bs (nI T.length) (nI (sumS sc T)) be tr way wm ws = jf_Model_rows_b365 N bm bs (nI (T ++ wyl ln (BF kd sc ln tx ask inn lst to ne (to - fr)) (to - (fr + q)) (fr + q)).length) (nI (sumS sc (T ++ wyl ln (BF kd sc ln tx ask inn lst to ne (to - fr)) (to - (fr + q)) (fr + q)))) be tr' way wm ws ∧ ar tr' ((T ++ wyl ln (BF kd sc ln tx ask inn lst to ne (to - fr)) (to - (fr + q)) (fr + q)).map nI) := by
  intro f
  induction f with
  | zero =>
    intro q g T tr h1 h2 h3 ht h4 h5
    obtain ⟨g, rfl⟩ : ∃ y, g = y + 1 := ⟨g - 1, by omega⟩
    rw [show to - (fr + q) = 0 by omega, wyl, List.append_nil]
    refine ⟨tr, ?_, ht⟩
    rw [jf_Model_rows_b327, p_sub (by omega), if_pos (p_yle (by omega) (by omega))]
  | succ f ih =>
    intro q g T tr h1 h2 h3 ht h4 h5
    obtain ⟨g, rfl⟩ : ∃ y, g = y + 1 := ⟨g - 1, by omega⟩
    by_cases e : fr + q = to
    · rw [show to - (fr + q) = 0 by omega, wyl, List.append_nil]
      refine ⟨tr, ?_, ht⟩
      rw [jf_Model_rows_b327, p_sub (by omega), if_pos (p_yle (by omega) (by omega))]
    · have hB' : BF kd sc ln tx ask inn lst to ne (to - fr) (fr + q) ≠ none := by
        rcases h5 with z | z
        · omega
        · exact z
      have hR := hB q (by omega)
      cases hw : BF kd sc ln tx ask inn lst to ne (to - fr) (fr + q) with
      | none => exact absurd hw hB'
      | some w =>
        obtain ⟨s, m, k⟩ := w
        rw [hw] at hR
        obtain ⟨R1, R2, R3⟩ := hR
        have hS := BF_ok hb (to - fr) (by omega) _ _ _ _ hw
        obtain ⟨w1, w2, w3, w4, w5, w6, w7, -⟩ := id hS
        obtain ⟨a1, a2⟩ := hA k w1
        obtain ⟨d1, d2⟩ := tries_ok (sc := sc) (k := k) (T := T) (mc := mc) (tr := tr) (by omega) (by omega) a1 ht
        have hwl : wyl ln (BF kd sc ln tx ask inn lst to ne (to - fr)) (to - (fr + q)) (fr + q) = k :: wyl ln (BF kd sc ln tx ask inn lst to ne (to - fr)) (to - (fr + (q + ln k))) (fr + (q + ln k)) := by
          rw [show to - (fr + q) = (to - (fr + q) - 1) + 1 by omega, wyl_next hw, wyl_fuel hb (by omega) (to - (fr + q) - 1) (to - (fr + (q + ln k))) (fr + q + ln k) (by omega) (by omega), Nat.add_assoc]
        obtain ⟨tr', r1, r2⟩ := ih (q + ln k) g (T ++ [k]) (upd tr T.length (nI k)) (by omega) (by omega) (by omega) d2 (by rw [List.length_append, List.length_singleton]; omega) (by
          obtain ⟨-, -, -, -, -, -, -, w8⟩ := hS
          rcases w8 with ⟨x1, -⟩ | ⟨x1, x2, s', m', k', x3, -⟩
          · exact Or.inl (by omega)
          · exact Or.inr (by rw [show fr + (q + ln k) = fr + q + ln k by omega, x3]; exact fun z => by cases z))
        rw [List.append_assoc, List.singleton_append, ← hwl] at r1 r2
        refine ⟨tr', ?_, r2⟩
        rw [jf_Model_rows_b327, p_sub (by omega), if_neg (p_nle (by omega) (by omega)), p_ga (by omega) (by omega), p_cl (by omega), R3, d1, Option.bind_some]
        dsimp only
        rw [p_ga (by omega) (by omega), p_cl (by omega), a2, nI_add]
        exact r1
theorem rows_ok {fr : Nat} {r : WL} {x3 bm bs tm ts : Int32} {be tr way wm ws mk mc ml mx : Nat → Int32} (hN : 100 ≤ N) (hne : ne ≤ 60) (hb : bkL ne kd sc ln inn lst) (hA : rwM ne kd sc ln tx mk mc ml mx) (hto : to ≤ 60) (hfr : fr < to) (hask : ∀ j, j < to → ∃ m, m < 128 ∧ ask j = nI m) (hx : (x3 = 0 ∧ inn = 1 ∧ lst = 0) ∨ (x3 = 1 ∧ inn = 5 ∧ lst = 5)) (hr : bsR r bm bs be) (hH : ∀ s l s' l', wayP kd sc ln tx ask inn lst to ne fr = some (s, l) → r = some (s', l') → l.headD 0 ≠ l'.headD 0) : ∃ (bm' bs' tm' ts' : Int32) (be' tr' way' wm' ws' : Nat → Int32), jf_Model_rows N (nI fr) (nI to) x3 (nI ne) ask mk mc ml mx bm bs tm ts be tr way wm ws = some (bm', bs', tm', ts', be', tr', way', wm', ws') ∧ bsR (mn r (wayP kd sc ln tx ask inn lst to ne fr)) bm' bs' be' := by
  have core : ∀ z2 : Int32, ((x3 = 0 ∧ inn = 1 ∧ lst = 0 ∧ z2 = -1) ∨ (x3 = 1 ∧ inn = 5 ∧ lst = 5 ∧ z2 = 0)) → ∃ (bm' bs' tm' ts' : Int32) (be' tr' way' wm' ws' : Nat → Int32), jf_Model_rows_b25 N (nI fr) (nI to) x3 (nI ne) ask mk mc ml mx (nI (to - fr)) z2 bm bs tm ts be tr (upd way (to - fr) (-1)) wm ws = some (bm', bs', tm', ts', be', tr', way', wm', ws') ∧ bsR (mn r (wayP kd sc ln tx ask inn lst to ne fr)) bm' bs' be' := by
    intro z2 hz
    obtain ⟨way', wm', ws', h1, h2⟩ := mr_all (N := N) (x3 := x3) (bm := bm) (bs := bs) (tm := tm) (ts := ts) (be := be) (tr := tr) hN hne hb hA hto hfr hask (to - fr) to N (upd way (to - fr) (-1)) (upd wm (to - fr) 0) (upd ws (to - fr) z2) (by omega) (by omega) (Nat.le_refl to) (by
      unfold glR
      rw [p_upd_s, p_upd_s]
      rcases hz with ⟨z1, z2, z3, z4⟩ | ⟨z1, z2, z3, z4⟩
      · exact Or.inl ⟨z1, z2, z3, z4⟩
      · exact Or.inr ⟨z1, z2, z3, z4, rfl⟩) (fun r h3 h4 => by omega)
    rw [jf_Model_rows_b25, p_ga (by omega) (by omega), p_sub (by omega), p_ga (by omega) (by omega), p_cl (by omega), h1, jf_Model_rows_b309]
    have g0 : ∀ {α : Type} (k : Option α), jga (0 : Int32) 62 k = k := fun k => p_ga (j := 0) (by omega) (by omega)
    have c0 : (0 : Int32).toNatClampNeg = 0 := by decide
    rw [g0, c0]
    have h20 := h2 0 (by omega)
    rw [Nat.add_zero] at h20
    cases hw : BF kd sc ln tx ask inn lst to ne (to - fr) fr with
    | none =>
      rw [hw] at h20
      rw [if_pos (show ws' 0 = -1 from h20), wayP_n hw, mn_none]
      exact ⟨_, _, _, _, _, _, _, _, _, rfl, hr⟩
    | some w =>
      obtain ⟨s, m, k⟩ := w
      rw [hw] at h20
      obtain ⟨R1, R2, R3⟩ := h20
      obtain ⟨m', k', l', p1, p2, p3, p4, p5, p6, p7, -⟩ := wayP_s hb (wayP_y hw)
      rw [hw] at p1
      cases p1
      have hs5 := sumS_len (sc := sc) _ (fun j hj => (hb j (p6 j hj)).1)
      rw [p5] at hs5
      obtain ⟨tr', r1, r2⟩ := mw_loop (N := N) (bm := bm) (bs := bs) (be := be) hne hto hb (fun k hk => ⟨(hA k hk).2.1, (hA k hk).2.2.1⟩) h2 (to - fr) 0 N [] tr (by omega) (by omega) (by omega) ar_nil (by rw [List.length_nil]; omega) (Or.inr (by rw [Nat.add_zero, hw]; exact fun z => by cases z))
      rw [List.nil_append, Nat.add_zero] at r1 r2
      rw [p5] at r1
      rw [R1, if_neg (show ¬ nI s = -1 from fun z => cast (p_m1 (n := s) (by omega)) z), jf_Model_begins, Option.bind_some]
      dsimp only
      rw [show jf_Model_rows_b327 N (nI fr) (nI to) mc ml N 0 bm bs 0 0 be tr way' wm' ws' = _ from r1, jf_Model_rows_b365, wayP_y hw]
      rw [p3] at r2 p6 p7 hs5 ⊢
      obtain ⟨bm', bs', be', o1, o2⟩ := offers_ok (N := N) (s := s) (t0 := k) (T1 := l') (tr := tr') hN (by omega) (by omega) (fun j hj => by have := p6 j hj; omega) r2 hr (fun b0 L1 q1 q2 q3 => by
        have := hH s (k :: l') s (b0 :: L1) (by rw [wayP_y hw, p3]) q1
        exact absurd q3 this)
      rw [o1, Option.bind_some]
      exact ⟨_, _, _, _, _, _, _, _, _, rfl, o2⟩
  rw [jf_Model_rows, p_sub (by omega), p_ga (by omega) (by omega), p_cl (by omega)]
  rcases hx with ⟨x1, x2, x3'⟩ | ⟨x1, x2, x3'⟩
  · rw [if_pos x1]
    exact core (-1) (Or.inl ⟨x1, x2, x3', rfl⟩)
  · rw [if_neg (by rw [x1]; decide)]
    exact core 0 (Or.inr ⟨x1, x2, x3', rfl⟩)
end RW
