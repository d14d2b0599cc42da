/-! the words that are asked for -/
def okW (a : Nat → Int32) (n : Nat) : Prop := ∀ i, i < n → isSm (a i) ∨ (a i = 32 ∧ 0 < i ∧ i + 1 < n ∧ ¬ a (i - 1) = 32)
theorem sm_byte : ∀ n, n < 256 → ((¬ ((Int8.ofNat n).toInt32 &&& 255) < 97 ∧ ¬ 122 < ((Int8.ofNat n).toInt32 &&& 255)) ↔ (¬ (Int8.ofNat n).toInt32 < 97 ∧ ¬ 122 < (Int8.ofNat n).toInt32)) := by decide +kernel
theorem isSm_low {x : Int32} (h : isB x) : isSm (x &&& 255) ↔ isSm x := by
  obtain ⟨n, hn, rfl⟩ := isB_n h
  exact sm_byte n hn
theorem rSmall_y {v : Int32} (h : isSm v) : jf_Room_isSmall v = some 1 := by rw [jf_Room_isSmall, if_neg h.1, if_neg h.2]
theorem rSmall_n {v : Int32} (h : ¬ isSm v) : jf_Room_isSmall v = some 0 := by
  rw [jf_Room_isSmall]
  by_cases h1 : v < 97
  · rw [if_pos h1]
  · rw [if_neg h1]
    by_cases h2 : 122 < v
    · rw [if_pos h2]
    · exact absurd ⟨h1, h2⟩ h
theorem mSmall_y {v : Int32} (h : isSm v) : jf_Model_isSmall v = some 1 := by rw [jf_Model_isSmall, if_neg h.1, if_neg h.2]
theorem mSmall_n {v : Int32} (h : ¬ isSm v) : jf_Model_isSmall v = some 0 := by
  rw [jf_Model_isSmall]
  by_cases h1 : v < 97
  · rw [if_pos h1]
  · rw [if_neg h1]
    by_cases h2 : 122 < v
    · rw [if_pos h2]
    · exact absurd ⟨h1, h2⟩ h
theorem sm_32 {v : Int32} (h : isSm v) : ¬ v = 32 := fun e => by rw [e] at h; exact h.1 (by decide)
theorem tk_loop {n : Nat} {a : Nat → Int32} (hn : n ≤ 60) (hn1 : 1 ≤ n) : ∀ (d i g : Nat) (bm : Int32), i + d = n → d < g → (∀ j, j < i → isSm (a j) ∨ (a j = 32 ∧ 0 < j ∧ ¬ a (j - 1) = 32)) → ((bm = 1 ∧ 0 < i ∧ ¬ a (i - 1) = 32) ∨ (bm = 0 ∧ (i = 0 ∨ a (i - 1) = 32))) → ∃ z, jf_Planner_tookWords_b4 (nI n) a g bm (nI i) = some z ∧ (okW a n → z = 1) ∧ (¬ okW a n → z = 0) := by
  intro d
  induction d with
  | zero =>
    intro i g bm hi hg hq hb
    obtain ⟨g, rfl⟩ : ∃ y, g = y + 1 := ⟨g - 1, by omega⟩
    have : i = n := by omega
    subst this
    rw [jf_Planner_tookWords_b4, if_pos (p_yle (by omega) (by omega))]
    rcases hb with ⟨b1, b2, b3⟩ | ⟨b1, b2⟩
    · rw [b1, jgb_1]
      refine ⟨1, rfl, fun _ => rfl, fun h => absurd (fun j hj => ?_) h⟩
      rcases hq j hj with q | ⟨q1, q2, q3⟩
      · exact Or.inl q
      · refine Or.inr ⟨q1, q2, ?_, q3⟩
        rcases Nat.lt_or_ge (j + 1) i with w | w
        · exact w
        · rw [show j = i - 1 by omega] at q1; exact absurd q1 b3
    · rw [b1, jgb_0]
      refine ⟨0, rfl, fun h => ?_, fun _ => rfl⟩
      rcases b2 with b2 | b2
      · omega
      · rcases h (i - 1) (by omega) with q | ⟨q1, q2, q3, q4⟩
        · exact absurd b2 (sm_32 q)
        · omega
  | succ d ih =>
    intro i g bm hi hg hq hb
    obtain ⟨g, rfl⟩ : ∃ y, g = y + 1 := ⟨g - 1, by omega⟩
    rw [jf_Planner_tookWords_b4, if_neg (p_nle (by omega) (by omega)), p_ga (by omega) (by omega), p_cl (by omega)]
    by_cases h32 : a i = 32
    · rw [if_pos h32, jf_Planner_tookWords_b28, if_neg (by decide)]
      rcases hb with ⟨b1, b2, b3⟩ | ⟨b1, b2⟩
      · rw [b1, if_neg (by decide), jf_Planner_tookWords_b54, if_neg (by decide), jf_Planner_tookWords_b63, nI_1]
        refine ih (i + 1) g 0 (by omega) (by omega) (fun j hj => ?_) (Or.inr ⟨rfl, Or.inr (by rw [Nat.add_sub_cancel]; exact h32)⟩)
        rcases Nat.lt_or_ge j i with w | w
        · exact hq j w
        · rw [show j = i by omega]; exact Or.inr ⟨h32, b2, b3⟩
      · rw [b1, if_pos rfl]
        refine ⟨0, rfl, fun h => ?_, fun _ => rfl⟩
        rcases h i (by omega) with q | ⟨q1, q2, q3, q4⟩
        · exact absurd h32 (sm_32 q)
        · rcases b2 with b2 | b2
          · omega
          · exact absurd b2 q4
    · rw [if_neg h32, jf_Planner_tookWords_b28, if_pos rfl, p_ga (by omega) (by omega), p_cl (by omega)]
      by_cases hs : isSm (a i)
      · rw [rSmall_y hs, Option.bind_some, if_neg (by decide), jf_Planner_tookWords_b54, if_pos rfl, jf_Planner_tookWords_b63, nI_1]
        refine ih (i + 1) g 1 (by omega) (by omega) (fun j hj => ?_) (Or.inl ⟨rfl, by omega, by rw [Nat.add_sub_cancel]; exact h32⟩)
        rcases Nat.lt_or_ge j i with w | w
        · exact hq j w
        · rw [show j = i by omega]; exact Or.inl hs
      · rw [rSmall_n hs, Option.bind_some, if_pos rfl]
        refine ⟨0, rfl, fun h => ?_, fun _ => rfl⟩
        rcases h i (by omega) with q | ⟨q1, -⟩
        · exact absurd q hs
        · exact absurd q1 h32
theorem tookWords_ok {N n : Nat} {a : Nat → Int32} (hN : 100 ≤ N) (hn : n ≤ 60) (hn1 : 1 ≤ n) : ∃ z, jf_Planner_tookWords N (nI n) a = some z ∧ (okW a n → z = 1) ∧ (¬ okW a n → z = 0) := tk_loop hn hn1 n 0 N 0 (by omega) (by omega) (fun j hj => absurd hj (Nat.not_lt_zero j)) (Or.inr ⟨rfl, Or.inl rfl⟩)
theorem ia_z {n : Nat} {a : Nat → Int32} (hn : n ≤ 60) : ∀ (d i g : Nat), i + d = n → d < g → jf_Model_isAsked_b4 (nI n) 80 a g 0 (nI i) = some 0 := by
  intro d
  induction d with
  | zero =>
    intro i g hi hg
    obtain ⟨g, rfl⟩ : ∃ y, g = y + 1 := ⟨g - 1, by omega⟩
    rw [jf_Model_isAsked_b4, if_pos (p_yle (by omega) (by omega)), jgb_0]
  | succ d ih =>
    intro i g hi hg
    obtain ⟨g, rfl⟩ : ∃ y, g = y + 1 := ⟨g - 1, by omega⟩
    rw [jf_Model_isAsked_b4, if_neg (p_nle (by omega) (by omega)), if_pos rfl, jf_Model_isAsked_b59, jf_Model_isAsked_b60, nI_1]
    exact ih (i + 1) g (by omega) (by omega)
theorem ia_loop {n : Nat} {a : Nat → Int32} (hn : n ≤ 60) (hB : ∀ i, i < n → isB (a i)) : ∀ (d i g : Nat), i + d = n → d < g → (∀ j, j < i → isSm (a j) ∨ (a j = 32 ∧ 0 < j ∧ j + 1 < n ∧ ¬ a (j - 1) = 32)) → ∃ z, jf_Model_isAsked_b4 (nI n) 80 a g 1 (nI i) = some z ∧ (okW a n → z = 1) ∧ (¬ okW a n → z = 0) := by
  intro d
  induction d with
  | zero =>
    intro i g hi hg hq
    obtain ⟨g, rfl⟩ : ∃ y, g = y + 1 := ⟨g - 1, by omega⟩
    rw [jf_Model_isAsked_b4, if_pos (p_yle (by omega) (by omega)), jgb_1]
    exact ⟨1, rfl, fun _ => rfl, fun h => absurd (fun j hj => hq j (by omega)) h⟩
  | succ d ih =>
    intro i g hi hg hq
    obtain ⟨g, rfl⟩ : ∃ y, g = y + 1 := ⟨g - 1, by omega⟩
    have bad : (¬ (isSm (a i) ∨ (a i = 32 ∧ 0 < i ∧ i + 1 < n ∧ ¬ a (i - 1) = 32))) → ∃ z, jf_Model_isAsked_b59 (jf_Model_isAsked_b4 (nI n) 80 a g) (nI i) = some z ∧ (okW a n → z = 1) ∧ (¬ okW a n → z = 0) := by
      intro h
      rw [jf_Model_isAsked_b59, jf_Model_isAsked_b60, nI_1, ia_z hn d (i + 1) g (by omega) (by omega)]
      exact ⟨0, rfl, fun q => absurd (q i (by omega)) h, fun _ => rfl⟩
    have good : (isSm (a i) ∨ (a i = 32 ∧ 0 < i ∧ i + 1 < n ∧ ¬ a (i - 1) = 32)) → ∃ z, jf_Model_isAsked_b55 (jf_Model_isAsked_b4 (nI n) 80 a g) (nI i) = some z ∧ (okW a n → z = 1) ∧ (¬ okW a n → z = 0) := by
      intro h
      rw [jf_Model_isAsked_b55, jf_Model_isAsked_b60, nI_1]
      refine ih (i + 1) g (by omega) (by omega) (fun j hj => ?_)
      rcases Nat.lt_or_ge j i with w | w
      · exact hq j w
      · rw [show j = i by omega]; exact h
    rw [jf_Model_isAsked_b4, if_neg (p_nle (by omega) (by omega)), if_neg (by decide), p_ga (by omega) (by omega), p_cl (by omega)]
    by_cases hs : isSm (a i)
    · rw [mSmall_y ((isSm_low (hB i (by omega))).mpr hs), Option.bind_some, if_neg (by decide)]
      exact good (Or.inl hs)
    · rw [mSmall_n (fun q => hs ((isSm_low (hB i (by omega))).mp q)), Option.bind_some, if_pos rfl, p_ga (by omega) (by omega)]
      by_cases h32 : a i = 32
      · rw [if_pos h32]
        rcases Nat.eq_zero_or_pos i with h0 | h0
        · rw [if_pos (show nI i ≤ 0 from by rw [h0]; decide)]
          exact bad (fun h => by
            rcases h with h | h
            · exact hs h
            · omega)
        · rw [if_neg (show ¬ nI i ≤ 0 from p_nle (b := 0) h0 (by omega)), p_s1 (by omega)]
          rcases Nat.lt_or_ge i (n - 1) with q | q
          · rw [if_neg (p_nle q (by omega)), p_s1 h0, p_ga (by omega) (by omega), p_cl (by omega)]
            by_cases h1 : a (i - 1) = 32
            · rw [if_pos h1]
              exact bad (fun h => by
                rcases h with h | h
                · exact hs h
                · exact h.2.2.2 h1)
            · rw [if_neg h1]
              exact good (Or.inr ⟨h32, h0, by omega, h1⟩)
          · rw [if_pos (p_yle q (by omega))]
            exact bad (fun h => by
              rcases h with h | h
              · exact hs h
              · omega)
      · rw [if_neg h32]
        exact bad (fun h => by
          rcases h with h | h
          · exact hs h
          · exact h32 h.1)
theorem isAsked_ok {N n : Nat} {a : Nat → Int32} (hN : 100 ≤ N) (hn : n ≤ 60) (hB : ∀ i, i < n → isB (a i)) : ∃ z, jf_Model_isAsked N (nI n) 80 a = some z ∧ (okW a n → z = 1) ∧ (¬ okW a n → z = 0) := ia_loop hn hB n 0 N (by omega) (by omega) (fun j hj => absurd hj (Nat.not_lt_zero j))
theorem ptake_loop {n t : Nat} {b : Nat → Int32} (hn : n ≤ 60) (hnt : n ≤ t) (ht : t ≤ 80) (hB : ∀ i, i < n → isB (b i)) : ∀ (d i g : Nat) (w : Nat → Int32), i + d = n → d < g → (∀ j, j < i → w j = b j) → ∃ w', jf_Planner_take_b7 (nI n) (nI t) b g (nI i) (nI i) w = some (nI n, w') ∧ ∀ j, j < n → w' j = b j := by
  intro d
  induction d with
  | zero =>
    intro i g w hi hg hq
    obtain ⟨g, rfl⟩ : ∃ y, g = y + 1 := ⟨g - 1, by omega⟩
    have : i = n := by omega
    subst this
    rw [jf_Planner_take_b7, if_pos (p_yle (by omega) (by omega))]
    exact ⟨w, rfl, hq⟩
  | succ d ih =>
    intro i g w hi hg hq
    obtain ⟨g, rfl⟩ : ∃ y, g = y + 1 := ⟨g - 1, by omega⟩
    rw [jf_Planner_take_b7, if_neg (p_nle (by omega) (by omega)), if_neg (show ¬ 60 ≤ nI i from p_nle (a := 60) (by omega) (by omega)), tapeByte_in (by omega) ht, Option.bind_some, p_ga (by omega) (by omega), p_cl (by omega), pk_vb, isB_low (hB i (by omega)), nI_1]
    refine ih (i + 1) g (upd w i (b i)) (by omega) (by omega) (fun j hj => ?_)
    by_cases e : j = i
    · rw [e, p_upd_s]
    · rw [p_upd_n e]; exact hq j (by omega)
