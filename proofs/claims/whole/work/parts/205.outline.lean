/-! the outline of a new entry -/
def stB (v : Int32) : Bool := decide (¬ v ≤ 0) && decide (¬ 4194303 < v)
theorem stB_y {v : Int32} : stB v = true ↔ isSt v := by
  unfold stB isSt
  rw [Bool.and_eq_true, decide_eq_true_iff, decide_eq_true_iff]
theorem stB_0 : stB 0 = false := by decide
/-- how many strokes an outline has, 0 if it is none -/
def lo (o : Nat → Int32) : Nat → Nat → Nat → Nat
  | 0, s, _ => s
  | d + 1, s, i => if s = i ∧ stB (o i) = true then lo o d (s + 1) (i + 1) else if o i = 0 then lo o d s (i + 1) else 0
theorem cSt (v : Int32) : jf_Room_isStroke v = some (if stB v = true then 1 else 0) := by
  by_cases h : isSt v
  · rw [cSt_y h, if_pos (stB_y.mpr h)]
  · rw [cSt_n h, if_neg (fun q => h (stB_y.mp q))]
theorem lay_loop {o : Nat → Int32} : ∀ (d s i g : Nat), i + d = 5 → s ≤ i → d < g → jf_Room_layOutline_b43 g (nI s) (nI i) o = some (nI (lo o d s i), o) := by
  intro d
  induction d with
  | zero =>
    intro s i g hi hs hg
    obtain ⟨g, rfl⟩ : ∃ z, g = z + 1 := ⟨g - 1, by omega⟩
    rw [jf_Room_layOutline_b43, if_pos (by rw [p_lit 5]; exact p_yle (by omega) (by omega)), lo]
  | succ d ih =>
    intro s i g hi hs hg
    obtain ⟨g, rfl⟩ : ∃ z, g = z + 1 := ⟨g - 1, by omega⟩
    have e75 : ∀ s', s' ≤ i + 1 → jf_Room_layOutline_b75 (jf_Room_layOutline_b43 g) (nI s') (nI i) o = some (nI (if o i = 0 then lo o d s' (i + 1) else 0), o) := by
      intro s' hs'
      rw [jf_Room_layOutline_b75, p_ga (by omega) (by omega), p_cl (by omega)]
      by_cases h0 : o i = 0
      · rw [if_pos h0, if_pos h0, jf_Room_layOutline_b87, nI_1, ih s' (i + 1) g (by omega) hs' (by omega)]
      · rw [if_neg h0, if_neg h0]
        rfl
    rw [jf_Room_layOutline_b43, if_neg (by rw [p_lit 5]; exact p_nle (by omega) (by omega)), lo]
    by_cases hsi : s = i
    · subst hsi
      rw [if_pos rfl, p_ga (by omega) (by omega), p_cl (by omega), cSt, Option.bind_some]
      by_cases hst : stB (o s) = true
      · rw [if_pos hst, if_neg (by decide), if_pos ⟨rfl, hst⟩, jf_Room_layOutline_b87, nI_1, ih (s + 1) (s + 1) g (by omega) (Nat.le_refl _) (by omega)]
      · rw [if_neg hst, if_pos rfl, if_neg (fun q => hst q.2), e75 s (by omega)]
    · rw [if_neg (p_ne hsi (by omega) (by omega)), if_neg (fun q => hsi q.1), e75 s (by omega)]
def outF (o0 : Nat → Int32) (a b c d e : Int32) : Nat → Int32 := upd (upd (upd (upd (upd o0 0 a) 1 b) 2 c) 3 d) 4 e
theorem lay_ok {N : Nat} {a b c d e : Int32} {o : Nat → Int32} (hN : 6 ≤ N) : jf_Room_layOutline N a b c d e o = some (nI (lo (outF o a b c d e) 5 0 0), outF o a b c d e) := by
  rw [jf_Room_layOutline]
  have h0 : jga 0 5 = jga (α := Int32 × (Nat → Int32)) (nI 0) 5 := rfl
  have e : ∀ (j : Nat) (k : Option (Int32 × (Nat → Int32))), j < 5 → jga (nI j) 5 k = k := fun j k h => p_ga h (by omega)
  show jga (nI 0) 5 (jga (nI 1) 5 (jga (nI 2) 5 (jga (nI 3) 5 (jga (nI 4) 5 _)))) = _
  rw [e 0 _ (by omega), e 1 _ (by omega), e 2 _ (by omega), e 3 _ (by omega), e 4 _ (by omega)]
  exact lay_loop 5 0 0 N rfl (Nat.le_refl 0) (by omega)
theorem tri3 (v : Int32) : (v = 0 ∧ stB v = false) ∨ (v ≠ 0 ∧ stB v = true) ∨ (v ≠ 0 ∧ stB v = false) := by
  by_cases h : v = 0
  · exact Or.inl ⟨h, by rw [h]; rfl⟩
  · cases hs : stB v with
    | true => exact Or.inr (Or.inl ⟨h, rfl⟩)
    | false => exact Or.inr (Or.inr ⟨h, rfl⟩)
set_option maxHeartbeats 4000000 in
theorem areStrokes_lo {a b c d e : Int32} {o : Nat → Int32} (h0 : o 0 = a) (h1 : o 1 = b) (h2 : o 2 = c) (h3 : o 3 = d) (h4 : o 4 = e) : jf_Model_areStrokes a b c d e = some (if lo o 5 0 0 = 0 then 0 else 1) := by
  rcases tri3 a with ⟨ha, sa⟩ | ⟨ha, sa⟩ | ⟨ha, sa⟩ <;> rcases tri3 b with ⟨hb, sb⟩ | ⟨hb, sb⟩ | ⟨hb, sb⟩ <;> rcases tri3 c with ⟨hc, sc⟩ | ⟨hc, sc⟩ | ⟨hc, sc⟩ <;> rcases tri3 d with ⟨hd, sd⟩ | ⟨hd, sd⟩ | ⟨hd, sd⟩ <;> rcases tri3 e with ⟨he, se⟩ | ⟨he, se⟩ | ⟨he, se⟩ <;> simp [jf_Model_areStrokes, jf_Model_areStrokes_b20, jf_Model_areStrokes_b31, jf_Model_areStrokes_b42, jf_Model_areStrokes_b57, jf_Model_areStrokes_b65, jf_Model_areStrokes_b73, mSt, cSt, lo, h0, h1, h2, h3, h4, ha, hb, hc, hd, he, sa, sb, sc, sd, se, stB_0]
/-- what an outline of n strokes is -/
theorem lo_spec {o : Nat → Int32} : ∀ (d s i : Nat), s ≤ i → (s < i → ∀ j, s ≤ j → j < i → o j = 0) → (∀ j, j < s → stB (o j) = true) → lo o d s i ≠ 0 → lo o d s i ≤ i + d ∧ s ≤ lo o d s i ∧ (∀ j, j < lo o d s i → stB (o j) = true) ∧ (∀ j, lo o d s i ≤ j → j < i + d → o j = 0) := by
  intro d
  induction d with
  | zero =>
    intro s i hs hz hg hne
    rw [lo]
    refine ⟨hs, Nat.le_refl s, hg, fun j h1 h2 => ?_⟩
    exact hz (by omega) j h1 (by omega)
  | succ d ih =>
    intro s i hs hz hg hne
    rw [lo] at hne ⊢
    by_cases hsi : s = i ∧ stB (o i) = true
    · rw [if_pos hsi] at hne ⊢
      obtain ⟨h1, h2, h3, h4⟩ := ih (s + 1) (i + 1) (by omega) (by omega) (fun j hj => by
        by_cases e : j = s
        · subst e; rw [hsi.1]; exact hsi.2
        · exact hg j (by omega)) hne
      exact ⟨by omega, by omega, h3, fun j q1 q2 => h4 j q1 (by omega)⟩
    · rw [if_neg hsi] at hne ⊢
      by_cases h0 : o i = 0
      · rw [if_pos h0] at hne ⊢
        obtain ⟨h1, h2, h3, h4⟩ := ih s (i + 1) (by omega) (fun _ j q1 q2 => by
          by_cases e : j = i
          · subst e; exact h0
          · exact hz (by omega) j q1 (by omega)) hg hne
        exact ⟨by omega, h2, h3, fun j q1 q2 => h4 j q1 (by omega)⟩
      · rw [if_neg h0] at hne
        exact absurd rfl hne
