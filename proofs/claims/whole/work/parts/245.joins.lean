/-! the best word and suffix -/
noncomputable def jdB (kd : Nat → Int32) (ln : Nat → Nat) (tx ask : Nat → Int32) (fr to : Nat) (w s : Nat) : Bool := by
  classical exact decide (kd w = 0 ∧ kd s = 2 ∧ jdP ln tx ask fr to w s)
noncomputable def jin (kd : Nat → Int32) (sc ln : Nat → Nat) (tx ask : Nat → Int32) (fr to : Nat) (acc : WL) (w : Nat) : Nat → WL
  | 0 => acc
  | S + 1 => if jdB kd ln tx ask fr to w S = true then mn (jin kd sc ln tx ask fr to acc w S) (some (sc w + sc S, [w, S])) else jin kd sc ln tx ask fr to acc w S
noncomputable def jout (kd : Nat → Int32) (sc ln : Nat → Nat) (tx ask : Nat → Int32) (fr to : Nat) (ne : Nat) : Nat → WL
  | 0 => none
  | W + 1 => jin kd sc ln tx ask fr to (jout kd sc ln tx ask fr to ne W) W ne
/-- what a best pair is, ahead of the pair w, S -/
def jL (ne : Nat) (kd : Nat → Int32) (sc : Nat → Nat) (fr to : Nat) (acc : WL) (w S : Nat) : Prop := ∀ t l, acc = some (t, l) → ∃ w' s', l = [w', s'] ∧ t = sc w' + sc s' ∧ (w' < w ∨ (w' = w ∧ s' < S)) ∧ w' < ne ∧ s' < ne ∧ kd w' = 0 ∧ 2 ≤ to - fr
theorem mn_or (a b : WL) : mn a b = a ∨ mn a b = b := by
  cases b with
  | none => exact Or.inl rfl
  | some y =>
    cases a with
    | none => exact Or.inr rfl
    | some x =>
      obtain ⟨s1, l1⟩ := x
      obtain ⟨s2, l2⟩ := y
      unfold mn
      dsimp only
      by_cases c : keyW s2 l2 < keyW s1 l1
      · rw [if_pos c]; exact Or.inr rfl
      · rw [if_neg c]; exact Or.inl rfl
theorem mn_key {a : WL} {s : Nat} {l : List Nat} : (keyN a ≤ keyW s l → keyW s l < 2147483647 → mn a (some (s, l)) = a) ∧ (keyW s l < keyN a → mn a (some (s, l)) = some (s, l)) := by
  cases a with
  | none => exact ⟨fun h1 h2 => by rw [keyN] at h1; omega, fun _ => rfl⟩
  | some x =>
    obtain ⟨s1, l1⟩ := x
    rw [keyN]
    unfold mn
    dsimp only
    exact ⟨fun h1 _ => by rw [if_neg (by omega)], fun h => by rw [if_pos h]⟩
section JB
variable {N ne : Nat} {kd : Nat → Int32} {sc : Nat → Nat} {st : Nat → Int32} {ln : Nat → Nat} {tx ask : Nat → Int32} {fr to : Nat}
theorem jdB_y {w s : Nat} : jdB kd ln tx ask fr to w s = true ↔ kd w = 0 ∧ kd s = 2 ∧ jdP ln tx ask fr to w s := by
  classical
  unfold jdB
  exact decide_eq_true_iff
theorem jin_no {acc : WL} {w : Nat} : ∀ S : Nat, (∀ s, s < S → ¬ jdB kd ln tx ask fr to w s = true) → jin kd sc ln tx ask fr to acc w S = acc := by
  intro S
  induction S with
  | zero => intro _; rw [jin]
  | succ S ih =>
    intro h
    rw [jin, if_neg (h S (by omega))]
    exact ih (fun s hs => h s (by omega))
/-- kinds and lengths -/
def bkJ (ne : Nat) (kd : Nat → Int32) (sc ln : Nat → Nat) (tx : Nat → Int32) : Prop := ∀ k, k < ne → sc k ≤ 5 ∧ ln k ≤ 16 ∧ (kd k = 0 ∨ kd k = 2 → 1 ≤ ln k ∧ ∀ i, i < ln k → isSm (tx (16 * k + i)))
theorem jin_L {acc : WL} {w : Nat} (hb : bkJ ne kd sc ln tx) (hw : w < ne) (h : jL ne kd sc fr to acc w 0) : ∀ S : Nat, S ≤ ne → jL ne kd sc fr to (jin kd sc ln tx ask fr to acc w S) w S := by
  intro S
  induction S with
  | zero => intro _; rw [jin]; exact h
  | succ S ih =>
    intro hS t l e
    have ihS := ih (by omega)
    rw [jin] at e
    by_cases hj : jdB kd ln tx ask fr to w S = true
    · rw [if_pos hj] at e
      rcases mn_or (jin kd sc ln tx ask fr to acc w S) (some (sc w + sc S, [w, S])) with q | q
      · rw [q] at e
        obtain ⟨w', s', h1, h2, h3, h4⟩ := ihS t l e
        exact ⟨w', s', h1, h2, by omega, h4⟩
      · rw [q] at e
        injection e with e
        injection e with e1 e2
        obtain ⟨j1, j2, j3⟩ := jdB_y.mp hj
        have hlw := ((hb w hw).2.2 (Or.inl j1)).1
        have hls := ((hb S (by omega)).2.2 (Or.inr j2)).1
        have := (jd_len j3 hlw hls).1
        exact ⟨w, S, e2.symm, e1.symm, Or.inr ⟨rfl, by omega⟩, hw, by omega, j1, by omega⟩
    · rw [if_neg hj] at e
      obtain ⟨w', s', h1, h2, h3, h4⟩ := ihS t l e
      exact ⟨w', s', h1, h2, by omega, h4⟩
theorem jL_up {acc : WL} {w : Nat} (h : jL ne kd sc fr to acc w ne) : jL ne kd sc fr to acc (w + 1) 0 := by
  intro t l e
  obtain ⟨w', s', h1, h2, h3, h4⟩ := h t l e
  exact ⟨w', s', h1, h2, by omega, h4⟩
theorem jout_L (hb : bkJ ne kd sc ln tx) : ∀ W : Nat, W ≤ ne → jL ne kd sc fr to (jout kd sc ln tx ask fr to ne W) W 0 := by
  intro W
  induction W with
  | zero => intro _ t l e; rw [jout] at e; cases e
  | succ W ih =>
    intro hW
    rw [jout]
    exact jL_up (jin_L hb (by omega) (ih (by omega)) ne (Nat.le_refl ne))
/-- the class's best pair -/
def jR (acc : WL) (x4 wo su : Int32) : Prop := x4 = nI (keyN acc) ∧ ∀ t w s, acc = some (t, [w, s]) → wo = nI w ∧ su = nI s
theorem jL_key {acc : WL} {w S : Nat} (hne : ne ≤ 60) (hb : bkJ ne kd sc ln tx) (h : jL ne kd sc fr to acc w S) : keyN acc < 2147483648 := by
  cases acc with
  | none => rw [keyN]; omega
  | some x =>
    obtain ⟨t, l⟩ := x
    obtain ⟨w', s', h1, h2, h3, h4, h5, -⟩ := h t l rfl
    have c1 := (hb w' h4).1
    have c2 := (hb s' h5).1
    subst h1
    rw [keyN, keyW]
    simp only [List.length_cons, List.length_nil, List.headD_cons]
    omega
theorem cj_in {k7 : Int32 → Int32 → Int32 → Int32 → Int32 → Int32 → Int32 → Int32 → Int32 → (Nat → Int32) → Option (Int32 × Int32 × Int32 × Int32 × Int32 × Int32 × Int32 × Int32 × (Nat → Int32))} {w : Nat} {acc : WL} {ak asc al ax : Nat → Int32} (hN : 9000 ≤ N) (hne : ne ≤ 60) (hto : to ≤ 60) (hfr : fr < to) (hb : bkJ ne kd sc ln tx) (hA : rwC ne kd sc ln tx ak asc al ax) (hw : w < ne) (hk : kd w = 0) (hL : jL ne kd sc fr to acc w 0) : ∀ (d S g : Nat) (x4 wo su c0 c1 c2 L0 V0 : Int32) (a : Nat → Int32), S + d = ne → d < g → jR (jin kd sc ln tx ask fr to acc w S) x4 wo su → ∃ (x4' wo' su' c0' c1' c2' L V : Int32) (a' : Nat → Int32), jf_Join_solve_b37 N (nI fr) (nI to) 60 (nI ne) ask ak al ax asc k7 g x4 (nI w) (nI S) wo su c0 c1 c2 L0 V0 a = k7 x4' (nI (w + 1)) wo' su' c0' c1' c2' L V a' ∧ jR (jin kd sc ln tx ask fr to acc w ne) x4' wo' su' := by
  obtain ⟨a1, a2, a3, a4⟩ := hA w hw
  obtain ⟨b1, b2, b3⟩ := hb w hw
  intro d
  induction d with
  | zero =>
    intro S g x4 wo su c0 c1 c2 L0 V0 a hS hg hR
    obtain ⟨g, rfl⟩ : ∃ y, g = y + 1 := ⟨g - 1, by omega⟩
    have : S = ne := by omega
    subst this
    rw [jf_Join_solve_b37, jf_Book_size, Option.bind_some, if_pos (p_yle (by omega) (by omega)), jf_Join_solve_b136, nI_1]
    exact ⟨_, _, _, _, _, _, _, _, _, rfl, hR⟩
  | succ d ih =>
    intro S g x4 wo su c0 c1 c2 L0 V0 a hS hg hR
    obtain ⟨g, rfl⟩ : ∃ y, g = y + 1 := ⟨g - 1, by omega⟩
    have hSn : S < ne := by omega
    obtain ⟨e1, e2, e3, e4⟩ := hA S hSn
    obtain ⟨f1, f2, f3⟩ := hb S hSn
    have hkey := jL_key hne hb (jin_L (tx := tx) (ask := ask) hb hw hL S (by omega))
    have hcost : jf_Chain_costOf (nI (sc w + sc S)) 2 (nI w) = some (nI (keyW (sc w + sc S) [w, S])) := costOf_ok (sc w + sc S) 2 w
    have hck : keyW (sc w + sc S) [w, S] = ((sc w + sc S) * 64 + 2) * 64 + w := rfl
    have skip : ∀ (c0 c1 c2 L0 V0 : Int32) (a : Nat → Int32), jin kd sc ln tx ask fr to acc w (S + 1) = jin kd sc ln tx ask fr to acc w S → ∃ (x4' wo' su' c0' c1' c2' L V : Int32) (a' : Nat → Int32), jf_Join_solve_b130 k7 (jf_Join_solve_b37 N (nI fr) (nI to) 60 (nI ne) ask ak al ax asc k7 g) x4 (nI w) (nI S) wo su c0 c1 c2 L0 V0 a = k7 x4' (nI (w + 1)) wo' su' c0' c1' c2' L V a' ∧ jR (jin kd sc ln tx ask fr to acc w ne) x4' wo' su' := by
      intro c0 c1 c2 L0 V0 a h
      rw [jf_Join_solve_b130, nI_1]
      exact ih (S + 1) g x4 wo su c0 c1 c2 L0 V0 a (by omega) (by omega) (by rw [h]; exact hR)
    rw [jf_Join_solve_b37, jf_Book_size, Option.bind_some, if_neg (p_nle (by omega) (by omega)), Book_strokesOf_in hw hne, Option.bind_some, Book_strokesOf_in hSn hne, Option.bind_some, a2, e2, nI_add, hcost, Option.bind_some, Book_kindOf_in hSn hne, Option.bind_some, e1]
    by_cases hks : kd S = 2
    · rw [if_pos hks, hR.1]
      rcases Nat.lt_or_ge (keyW (sc w + sc S) [w, S]) (keyN (jin kd sc ln tx ask fr to acc w S)) with q | q
      · obtain ⟨z, c0', c1', c2', L, V, a', z1, z2, z3⟩ := cJoined (N := N) (ask := ask) (tx := tx) (c0 := c0) (c1 := c1) (c2 := c2) (L0 := L0) (V0 := V0) (a := a) hN hne hto hfr hw hSn ⟨(b3 (Or.inl hk)).1, b2⟩ ⟨(f3 (Or.inr hks)).1, f2⟩ (fun k hk => ⟨(hA k hk).2.2.1, (hA k hk).2.2.2⟩) (b3 (Or.inl hk)).2 (f3 (Or.inr hks)).2
        rw [if_neg (p_nle q (by omega)), z1, Option.bind_some]
        dsimp only
        by_cases hj : jdP ln tx ask fr to w S
        · have hst : jin kd sc ln tx ask fr to acc w (S + 1) = some (sc w + sc S, [w, S]) := by
            rw [jin, if_pos (jdB_y.mpr ⟨hk, hks, hj⟩)]
            exact mn_key.2 q
          rw [z2 hj, if_neg (by decide), jf_Join_solve_b130, nI_1]
          refine ih (S + 1) g _ _ _ _ _ _ _ _ _ (by omega) (by omega) ⟨by rw [hst, keyN], fun t w' s' e => ?_⟩
          rw [hst] at e
          cases e
          exact ⟨rfl, rfl⟩
        · rw [z3 hj, if_pos rfl, ← hR.1]
          refine skip _ _ _ _ _ _ ?_
          rw [jin, if_neg (fun h => hj (jdB_y.mp h).2.2)]
      · rw [if_pos (p_yle q (by omega)), ← hR.1]
        refine skip _ _ _ _ _ _ ?_
        rw [jin]
        by_cases hj : jdB kd ln tx ask fr to w S = true
        · rw [if_pos hj]
          exact mn_key.1 q (by omega)
        · rw [if_neg hj]
    · rw [if_neg hks]
      refine skip _ _ _ _ _ _ ?_
      rw [jin, if_neg (fun h => hks (jdB_y.mp h).2.1)]
theorem cj_out {ak asc al ax : Nat → Int32} (hN : 9000 ≤ N) (hne : ne ≤ 60) (hto : to ≤ 60) (hfr : fr < to) (hb : bkJ ne kd sc ln tx) (hA : rwC ne kd sc ln tx ak asc al ax) : ∀ (d W g : Nat) (x4 wo su c0 c1 c2 L0 V0 : Int32) (a : Nat → Int32), W + d = ne → d < g → jR (jout kd sc ln tx ask fr to ne W) x4 wo su → ∃ (x4' wo' su' c0' c1' c2' L V : Int32) (a' : Nat → Int32), jf_Join_solve_b7 N (nI fr) (nI to) 60 (nI ne) ask ak al ax asc g x4 (nI W) wo su c0 c1 c2 L0 V0 a = some (x4', wo', su', c0', c1', c2', L, V, a') ∧ jR (jout kd sc ln tx ask fr to ne ne) x4' wo' su' := by
  intro d
  induction d with
  | zero =>
    intro W g x4 wo su c0 c1 c2 L0 V0 a hW hg hR
    obtain ⟨g, rfl⟩ : ∃ y, g = y + 1 := ⟨g - 1, by omega⟩
    have : W = ne := by omega
    subst this
    rw [jf_Join_solve_b7, jf_Book_size, Option.bind_some, if_pos (p_yle (by omega) (by omega))]
    exact ⟨_, _, _, _, _, _, _, _, _, rfl, hR⟩
  | succ d ih =>
    intro W g x4 wo su c0 c1 c2 L0 V0 a hW hg hR
    obtain ⟨g, rfl⟩ : ∃ y, g = y + 1 := ⟨g - 1, by omega⟩
    have hWn : W < ne := by omega
    obtain ⟨e1, e2, e3, e4⟩ := hA W hWn
    obtain ⟨f1, f2, f3⟩ := hb W hWn
    obtain ⟨z, z1, z2, z3⟩ := mayBegin_ok (N := N) (ask := ask) (tx := tx) (ak := ak) (al := al) (ax := ax) (by omega) hne hto hfr hWn e1 e3 f2 (fun h => (f3 (Or.inl h)).1) e4
    rw [jf_Join_solve_b7, jf_Book_size, Option.bind_some, if_neg (p_nle (by omega) (by omega)), z1, Option.bind_some]
    by_cases hm : kd W = 0 ∧ ln W - 1 < to - fr ∧ lets tx ask W (ln W - 1) fr
    · rw [z2 hm, if_neg (by decide)]
      obtain ⟨x4', wo', su', c0', c1', c2', L, V, a', h1, h2⟩ := cj_in (N := N) (ask := ask) (tx := tx) (k7 := jf_Join_solve_b7 N (nI fr) (nI to) 60 (nI ne) ask ak al ax asc g) (w := W) (acc := jout kd sc ln tx ask fr to ne W) hN hne hto hfr hb hA hWn hm.1 (jout_L hb W (by omega)) ne 0 N x4 wo su c0 c1 c2 L0 V0 a (by omega) (by omega) (by rw [jin]; exact hR)
      rw [show jf_Join_solve_b37 N (nI fr) (nI to) 60 (nI ne) ask ak al ax asc (jf_Join_solve_b7 N (nI fr) (nI to) 60 (nI ne) ask ak al ax asc g) N x4 (nI W) 0 wo su c0 c1 c2 L0 V0 a = _ from h1]
      exact ih (W + 1) g _ _ _ _ _ _ _ _ _ (by omega) (by omega) (by rw [jout]; exact h2)
    · rw [z3 hm, if_pos rfl, jf_Join_solve_b136, nI_1]
      refine ih (W + 1) g _ _ _ _ _ _ _ _ _ (by omega) (by omega) ?_
      rw [jout, jin_no ne (fun s hs h => ?_)]
      · exact hR
      · obtain ⟨j1, j2, j3⟩ := jdB_y.mp h
        obtain ⟨q1, q2, q3, -⟩ := jd_len j3 (f3 (Or.inl j1)).1 ((hb s hs).2.2 (Or.inr j2)).1
        exact hm ⟨j1, q3, q2⟩
theorem cJoin_ok {ak asc al ax : Nat → Int32} {wo su c0 c1 c2 L0 V0 : Int32} {a : Nat → Int32} (hN : 9000 ≤ N) (hne : ne ≤ 60) (hto : to ≤ 60) (hfr : fr < to) (hb : bkJ ne kd sc ln tx) (hA : rwC ne kd sc ln tx ak asc al ax) : ∃ (x4' wo' su' c0' c1' c2' L V : Int32) (a' : Nat → Int32), jf_Join_solve N (nI fr) (nI to) 60 (nI ne) ask ak al ax asc wo su c0 c1 c2 L0 V0 a = some (x4', wo', su', c0', c1', c2', L, V, a') ∧ jR (jout kd sc ln tx ask fr to ne ne) x4' wo' su' := by
  rw [jf_Join_solve]
  exact cj_out hN hne hto hfr hb hA ne 0 N 2147483647 wo su c0 c1 c2 L0 V0 a (by omega) (by omega) (by
    rw [jout]
    exact ⟨rfl, fun t w s e => by cases e⟩)
/-- no way of the chains begins as a pair does -/
def hdJ (ne : Nat) (kd : Nat → Int32) (r : WL) : Prop := ∀ s b0 L1, r = some (s, b0 :: L1) → (b0 :: L1).length = 2 → ¬ kd b0 = 0
theorem mj_in {k26 : Int32 → Int32 → Int32 → Int32 → Int32 → Int32 → Int32 → Int32 → Int32 → (Nat → Int32) → (Nat → Int32) → (Nat → Int32) → (Nat → Int32) → (Nat → Int32) → (Nat → Int32) → (Nat → Int32) → Option (Int32 × Int32 × Int32 × Int32 × Int32 × Int32 × Int32 × Int32 × Int32 × (Nat → Int32) × (Nat → Int32) × (Nat → Int32) × (Nat → Int32) × (Nat → Int32) × (Nat → Int32) × (Nat → Int32))} {w : Nat} {acc r : WL} {mk mc ml mx : Nat → Int32} {mm ms : Int32} {md wy wm ws : Nat → Int32} (hN : 9000 ≤ N) (hne : ne ≤ 60) (hto : to ≤ 60) (hfr : fr < to) (hb : bkJ ne kd sc ln tx) (hA : rwM ne kd sc ln tx mk mc ml mx) (hw : w < ne) (hL : jL ne kd sc fr to acc w 0) (hr : hdJ ne kd r) : ∀ (d S g : Nat) (le lm bm bs tm ts : Int32) (be te tr : Nat → Int32), S + d = ne → d < g → bsR (mn r (jin kd sc ln tx ask fr to acc w S)) bm bs be → ∃ (le' lm' bm' bs' tm' ts' : Int32) (be' te' tr' : Nat → Int32), jf_Model_plans_b37 N (nI fr) (nI to) (nI ne) ask mk mc ml mx k26 g (nI w) (nI S) le lm bm bs tm ts mm ms be md te tr wy wm ws = k26 (nI (w + 1)) le' lm' bm' bs' tm' ts' mm ms be' md te' tr' wy wm ws ∧ bsR (mn r (jin kd sc ln tx ask fr to acc w ne)) bm' bs' be' := by
  obtain ⟨a1, a2, a3, a4⟩ := hA w hw
  obtain ⟨b1, b2, b3⟩ := hb w hw
  intro d
  induction d with
  | zero =>
    intro S g le lm bm bs tm ts be te tr hS hg hR
    obtain ⟨g, rfl⟩ : ∃ y, g = y + 1 := ⟨g - 1, by omega⟩
    have : S = ne := by omega
    subst this
    rw [jf_Model_plans_b37, if_pos (p_yle (by omega) (by omega)), jf_Model_plans_b106, nI_1]
    exact ⟨_, _, _, _, _, _, _, _, _, rfl, hR⟩
  | succ d ih =>
    intro S g le lm bm bs tm ts be te tr hS hg hR
    obtain ⟨g, rfl⟩ : ∃ y, g = y + 1 := ⟨g - 1, by omega⟩
    have hSn : S < ne := by omega
    obtain ⟨e1, e2, e3, e4⟩ := hA S hSn
    obtain ⟨f1, f2, f3⟩ := hb S hSn
    rw [jf_Model_plans_b37, if_neg (p_nle (by omega) (by omega)), p_ga (by omega) (by omega), p_cl (by omega), a1]
    by_cases hk : kd w = 0
    · rw [if_pos hk, p_ga (by omega) (by omega), p_cl (by omega), e1]
      by_cases hks : kd S = 2
      · obtain ⟨z, le', lm', te', z1, z2, z3⟩ := mJoined (N := N) (ask := ask) (tx := tx) (le := le) (lm := lm) (a := te) hN hne hto hfr hw hSn ⟨(b3 (Or.inl hk)).1, b2⟩ ⟨(f3 (Or.inr hks)).1, f2⟩ (fun k hk => ⟨(hA k hk).2.2.1, (hA k hk).2.2.2⟩) (f3 (Or.inr hks)).2
        rw [if_pos hks, z1, Option.bind_some]
        dsimp only
        by_cases hj : jdP ln tx ask fr to w S
        · have hst : jin kd sc ln tx ask fr to acc w (S + 1) = mn (jin kd sc ln tx ask fr to acc w S) (some (sc w + sc S, [w, S])) := by
            rw [jin, if_pos (jdB_y.mpr ⟨hk, hks, hj⟩)]
          obtain ⟨t1, t2⟩ := tries_ok (sc := sc) (k := w) (T := []) (mc := mc) (tr := tr) (by omega) (by rw [List.length_nil]; omega) a2 ar_nil
          obtain ⟨t3, t4⟩ := tries_ok (sc := sc) (k := S) (T := [w]) (mc := mc) (tr := upd tr 0 (nI w)) (by omega) (by rw [List.length_singleton]; omega) e2 t2
          obtain ⟨bm', bs', be', o1, o2⟩ := offers_ok (N := N) (s := sc w + sc S) (t0 := w) (T1 := [S]) (r := mn r (jin kd sc ln tx ask fr to acc w S)) (bm := bm) (bs := bs) (be := be) (tr := upd (upd tr 0 (nI w)) 1 (nI S)) (by omega) (by simp) (by omega) (fun k hk => by
            rcases List.mem_cons.mp hk with q | q
            · omega
            · have := List.mem_singleton.mp q; omega) t4 hR (fun b0 L1 q1 q2 q3 => by
            rcases mn_or r (jin kd sc ln tx ask fr to acc w S) with m1 | m1
            · rw [m1] at q1
              exact absurd (by rw [← q3]; exact hk) (hr _ b0 L1 q1 q2.symm)
            · rw [m1] at q1
              obtain ⟨w', s', h1, h2, h3, -⟩ := jin_L (tx := tx) (ask := ask) hb hw hL S (by omega) _ _ q1
              injection h1 with h4 h5
              exact ⟨S, s', rfl, h5, by omega⟩)
          rw [z2 hj, if_neg (by decide), jf_Model_begins, Option.bind_some]
          dsimp only
          rw [show jf_Model_tries (nI w) mc 0 0 tr = some (nI [w].length, nI (sumS sc [w]), upd tr 0 (nI w)) from t1, Option.bind_some]
          dsimp only
          rw [t3, Option.bind_some]
          dsimp only
          rw [show sumS sc ([w] ++ [S]) = sc w + sc S from rfl, show jf_Model_offers N (nI ([w] ++ [S]).length) (nI (sc w + sc S)) (upd (upd tr 0 (nI w)) [w].length (nI S)) bm bs be = _ from o1, Option.bind_some]
          dsimp only
          rw [jf_Model_plans_b100, nI_1]
          exact ih (S + 1) g _ _ _ _ _ _ _ _ _ (by omega) (by omega) (by rw [hst, ← mn_assoc]; exact o2)
        · rw [z3 hj, if_pos rfl, jf_Model_plans_b100, nI_1]
          exact ih (S + 1) g _ _ _ _ _ _ _ _ _ (by omega) (by omega) (by rw [jin, if_neg (fun h => hj (jdB_y.mp h).2.2)]; exact hR)
      · rw [if_neg hks, jf_Model_plans_b100, nI_1]
        exact ih (S + 1) g _ _ _ _ _ _ _ _ _ (by omega) (by omega) (by rw [jin, if_neg (fun h => hks (jdB_y.mp h).2.1)]; exact hR)
    · have hno : ∀ S', jin kd sc ln tx ask fr to acc w S' = acc := fun S' => jin_no S' (fun s _ h => hk (jdB_y.mp h).1)
      rw [if_neg hk, jf_Model_plans_b106, nI_1]
      rw [hno S] at hR
      exact ⟨_, _, _, _, _, _, _, _, _, rfl, by rw [hno ne]; exact hR⟩
theorem mj_out {r : WL} {mk mc ml mx : Nat → Int32} {mm ms : Int32} {md wy wm ws : Nat → Int32} (hN : 9000 ≤ N) (hne : ne ≤ 60) (hto : to ≤ 60) (hfr : fr < to) (hb : bkJ ne kd sc ln tx) (hA : rwM ne kd sc ln tx mk mc ml mx) (hr : hdJ ne kd r) : ∀ (d W g : Nat) (le lm bm bs tm ts : Int32) (be te tr : Nat → Int32), W + d = ne → d < g → bsR (mn r (jout kd sc ln tx ask fr to ne W)) bm bs be → ∃ (le' lm' bm' bs' tm' ts' : Int32) (be' te' tr' : Nat → Int32), jf_Model_plans_b26 N (nI fr) (nI to) (nI ne) ask mk mc ml mx g (nI W) le lm bm bs tm ts mm ms be md te tr wy wm ws = jf_Model_plans_b112 N le' lm' bm' bs' tm' ts' mm ms be' md te' tr' wy wm ws ∧ bsR (mn r (jout kd sc ln tx ask fr to ne ne)) bm' bs' be' := by
  intro d
  induction d with
  | zero =>
    intro W g le lm bm bs tm ts be te tr hW hg hR
    obtain ⟨g, rfl⟩ : ∃ y, g = y + 1 := ⟨g - 1, by omega⟩
    have : W = ne := by omega
    subst this
    rw [jf_Model_plans_b26, if_pos (p_yle (by omega) (by omega))]
    exact ⟨_, _, _, _, _, _, _, _, _, rfl, hR⟩
  | succ d ih =>
    intro W g le lm bm bs tm ts be te tr hW hg hR
    obtain ⟨g, rfl⟩ : ∃ y, g = y + 1 := ⟨g - 1, by omega⟩
    obtain ⟨le', lm', bm', bs', tm', ts', be', te', tr', h1, h2⟩ := mj_in (N := N) (ask := ask) (tx := tx) (k26 := jf_Model_plans_b26 N (nI fr) (nI to) (nI ne) ask mk mc ml mx g) (w := W) (acc := jout kd sc ln tx ask fr to ne W) (r := r) (mm := mm) (ms := ms) (md := md) (wy := wy) (wm := wm) (ws := ws) hN hne hto hfr hb hA (by omega) (jout_L hb W (by omega)) hr ne 0 N le lm bm bs tm ts be te tr (by omega) (by omega) (by rw [jin]; exact hR)
    rw [jf_Model_plans_b26, if_neg (p_nle (by omega) (by omega)), show jf_Model_plans_b37 N (nI fr) (nI to) (nI ne) ask mk mc ml mx (jf_Model_plans_b26 N (nI fr) (nI to) (nI ne) ask mk mc ml mx g) N (nI W) 0 le lm bm bs tm ts mm ms be md te tr wy wm ws = _ from h1]
    exact ih (W + 1) g _ _ _ _ _ _ _ _ _ (by omega) (by omega) (by rw [jout]; exact h2)
end JB
