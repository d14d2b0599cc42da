/-! the rules of joining -/
def hsB (a b : Int32) : Bool := decide (a = 115) || decide (a = 120) || decide (a = 122) || (decide (a = 104) && (decide (b = 99) || decide (b = 115)))
theorem hisses_ok (a b : Int32) : jf_Page_hisses a b = some (if hsB a b = true then 1 else 0) := by
  unfold jf_Page_hisses jf_Page_hisses_b18 jf_Page_hisses_b22 jf_Page_hisses_b23 hsB
  by_cases q1 : a = 115 <;> by_cases q2 : a = 120 <;> by_cases q3 : a = 122 <;> by_cases q4 : a = 104 <;> by_cases q5 : b = 99 <;> by_cases q6 : b = 115 <;> simp [q1, q2, q3, q4, q5, q6]
theorem r110 (b L V z : Int32) : jf_Page_ruleFor_b110 b L V z = some (if ¬ L < 3 ∧ z = 0 ∧ vwB b = true ∧ V = 1 then 4 else 0) := by
  rw [jf_Page_ruleFor_b110]
  by_cases h1 : L < 3
  · rw [if_pos h1, if_neg (fun q => q.1 h1)]
  · rw [if_neg h1]
    by_cases h2 : z = 0
    · rw [if_pos h2, cVw, Option.bind_some]
      by_cases h3 : vwB b = true
      · rw [if_pos h3, if_neg (by decide)]
        by_cases h4 : V = 1
        · rw [if_pos h4, if_pos ⟨h1, h2, h3, h4⟩]
        · rw [if_neg h4, if_neg (fun q => h4 q.2.2.2)]
      · rw [if_neg h3, if_pos rfl, if_neg (fun q => h3 q.2.2.1)]
    · rw [if_neg h2, if_neg (fun q => h2 q.2.1)]
theorem r87 (a b L V : Int32) : jf_Page_ruleFor_b87 a b L V = some (if ¬ L < 3 ∧ ¬ a = 119 ∧ ¬ a = 120 ∧ ¬ a = 121 ∧ vwB b = true ∧ V = 1 then 4 else 0) := by
  rw [jf_Page_ruleFor_b87]
  have e1 : jf_Page_ruleFor_b105 b L V = some 0 := by
    rw [jf_Page_ruleFor_b105, r110, if_neg (fun q => absurd q.2.1 (by decide))]
  by_cases h1 : a = 119
  · rw [if_pos h1, e1, if_neg (fun q => q.2.1 h1)]
  · rw [if_neg h1]
    by_cases h2 : a = 120
    · rw [if_pos h2, e1, if_neg (fun q => q.2.2.1 h2)]
    · rw [if_neg h2]
      by_cases h3 : a = 121
      · rw [if_pos h3, e1, if_neg (fun q => q.2.2.2.1 h3)]
      · rw [if_neg h3, r110]
        by_cases hc : ¬ L < 3 ∧ vwB b = true ∧ V = 1
        · rw [if_pos ⟨hc.1, rfl, hc.2⟩, if_pos ⟨hc.1, h1, h2, h3, hc.2⟩]
        · rw [if_neg (fun q => hc ⟨q.1, q.2.2⟩), if_neg (fun q => hc ⟨q.1, q.2.2.2.2⟩)]
theorem r44 (a b x L V : Int32) : jf_Page_ruleFor_b44 a b x L V = some (if ¬ vwB x = true then 0 else if a = 101 ∧ ¬ L < 2 ∧ ¬ b = 101 ∧ ¬ b = 111 ∧ ¬ b = 121 then 3 else if ¬ L < 3 ∧ ¬ a = 119 ∧ ¬ a = 120 ∧ ¬ a = 121 ∧ vwB b = true ∧ V = 1 then 4 else 0) := by
  rw [jf_Page_ruleFor_b44, cVw, Option.bind_some]
  by_cases hx : vwB x = true
  · rw [if_pos hx, if_neg (by decide), if_neg (fun q : ¬ vwB x = true => q hx)]
    by_cases h1 : a = 101
    · rw [if_pos h1]
      by_cases h2 : L < 2
      · rw [if_pos h2, r87, if_neg (fun q : a = 101 ∧ ¬ L < 2 ∧ ¬ b = 101 ∧ ¬ b = 111 ∧ ¬ b = 121 => q.2.1 h2)]
      · rw [if_neg h2]
        by_cases h3 : b = 101
        · rw [if_pos h3, r87, if_neg (fun q : a = 101 ∧ ¬ L < 2 ∧ ¬ b = 101 ∧ ¬ b = 111 ∧ ¬ b = 121 => q.2.2.1 h3)]
        · rw [if_neg h3]
          by_cases h4 : b = 111
          · rw [if_pos h4, r87, if_neg (fun q : a = 101 ∧ ¬ L < 2 ∧ ¬ b = 101 ∧ ¬ b = 111 ∧ ¬ b = 121 => q.2.2.2.1 h4)]
          · rw [if_neg h4]
            by_cases h5 : b = 121
            · rw [if_pos h5, r87, if_neg (fun q : a = 101 ∧ ¬ L < 2 ∧ ¬ b = 101 ∧ ¬ b = 111 ∧ ¬ b = 121 => q.2.2.2.2 h5)]
            · rw [if_neg h5, if_pos ⟨h1, h2, h3, h4, h5⟩]
    · rw [if_neg h1, r87, if_neg (fun q : a = 101 ∧ ¬ L < 2 ∧ ¬ b = 101 ∧ ¬ b = 111 ∧ ¬ b = 121 => h1 q.1)]
  · rw [if_neg hx, if_pos rfl, if_pos hx]
theorem r29 (a b x z L V : Int32) : jf_Page_ruleFor_b29 a b x z L V = if ¬ z = 0 ∧ hsB a b = true then some 2 else jf_Page_ruleFor_b44 a b x L V := by
  rw [jf_Page_ruleFor_b29]
  by_cases hz : z = 0
  · rw [if_pos hz, if_neg (fun q => q.1 hz)]
  · rw [if_neg hz, hisses_ok, Option.bind_some]
    by_cases hh : hsB a b = true
    · rw [if_pos hh, if_neg (by decide), if_pos ⟨hz, hh⟩]
    · rw [if_neg hh, if_pos rfl, if_neg (fun q => hh q.2)]
theorem cRule (a b x z L V : Int32) : jf_Page_ruleFor a b x z L V = if a = 121 ∧ ¬ L < 2 ∧ ¬ vwB b = true ∧ ¬ x = 105 then some 1 else if ¬ z = 0 ∧ hsB a b = true then some 2 else jf_Page_ruleFor_b44 a b x L V := by
  rw [jf_Page_ruleFor]
  by_cases h1 : a = 121
  · rw [if_pos h1]
    by_cases h2 : L < 2
    · rw [if_pos h2, r29, if_neg (fun q : a = 121 ∧ ¬ L < 2 ∧ ¬ vwB b = true ∧ ¬ x = 105 => q.2.1 h2)]
    · rw [if_neg h2, cVw, Option.bind_some]
      by_cases h3 : vwB b = true
      · rw [if_pos h3, if_neg (by decide), r29, if_neg (fun q : a = 121 ∧ ¬ L < 2 ∧ ¬ vwB b = true ∧ ¬ x = 105 => q.2.2.1 h3)]
      · rw [if_neg h3, if_pos rfl]
        by_cases h4 : x = 105
        · rw [if_pos h4, r29, if_neg (fun q : a = 121 ∧ ¬ L < 2 ∧ ¬ vwB b = true ∧ ¬ x = 105 => q.2.2.2 h4)]
        · rw [if_neg h4, if_pos ⟨h1, h2, h3, h4⟩]
  · rw [if_neg h1, r29, if_neg (fun q : a = 121 ∧ ¬ L < 2 ∧ ¬ vwB b = true ∧ ¬ x = 105 => h1 q.1)]
/-- the reference: the loop over the letters ahead of the last three -/
theorem mCl {N n : Nat} {l : List Int32} {a : Nat → Int32} {vx : Int32} (ha : ar a l) (h7 : txt7 l) (hl : l.length ≤ 7999) (hn : n ≤ l.length) : ∀ (d i g : Nat) (z : Int32), n ≤ i + d → d < g → i ≤ 8003 → (z = 0 → jf_Model_ruleOf_b255 (nI l.length) (nI n) a g vx z (nI i) = some 5) ∧ (z = 1 → (∀ j, i ≤ j → j < n → ¬ vwB (smF (fe l j)) = true) → jf_Model_ruleOf_b255 (nI l.length) (nI n) a g vx z (nI i) = jf_Model_ruleOf_b294 vx 1) ∧ (z = 1 → (∃ j, i ≤ j ∧ j < n ∧ vwB (smF (fe l j)) = true) → jf_Model_ruleOf_b255 (nI l.length) (nI n) a g vx z (nI i) = some 5) := by
  have e294 : jf_Model_ruleOf_b294 vx 0 = some 5 := by
    rw [jf_Model_ruleOf_b294]
    by_cases hv : vx = 0
    · rw [if_pos hv]
    · rw [if_neg hv, if_pos rfl]
  intro d
  induction d with
  | zero =>
    intro i g z hi hg h8
    obtain ⟨g, rfl⟩ : ∃ y, g = y + 1 := ⟨g - 1, by omega⟩
    rw [jf_Model_ruleOf_b255, if_pos (p_yle (by omega) (by omega))]
    refine ⟨fun hz => by rw [hz, e294], fun hz _ => by rw [hz], fun hz ⟨j, h1, h2, _⟩ => by omega⟩
  | succ d ih =>
    intro i g z hi hg h8
    obtain ⟨g, rfl⟩ : ∃ y, g = y + 1 := ⟨g - 1, by omega⟩
    by_cases hin : n ≤ i
    · rw [jf_Model_ruleOf_b255, if_pos (p_yle hin (by omega))]
      refine ⟨fun hz => by rw [hz, e294], fun hz _ => by rw [hz], fun hz ⟨j, h1, h2, _⟩ => by omega⟩
    · have h0 := (ih (i + 1) g 0 (by omega) (by omega) (by omega)).1 rfl
      obtain ⟨-, h1a, h1b⟩ := ih (i + 1) g 1 (by omega) (by omega) (by omega)
      have e285 : jf_Model_ruleOf_b285 (jf_Model_ruleOf_b255 (nI l.length) (nI n) a g) vx (nI i) = some 5 := by
        rw [jf_Model_ruleOf_b285, jf_Model_ruleOf_b286, nI_1]
        exact h0
      have hlast : jf_Model_last (nI i) (nI l.length) (nI n) a = some (smF (fe l i)) := by
        rcases mLast_at (i := i) ha h7 hl hn with q | q
        · rw [q, if_pos (by omega)]
        · omega
      have hone : jf_Model_ruleOf_b255 (nI l.length) (nI n) a (g + 1) vx 1 (nI i) = if vwB (smF (fe l i)) = true then some 5 else jf_Model_ruleOf_b255 (nI l.length) (nI n) a g vx 1 (nI (i + 1)) := by
        rw [jf_Model_ruleOf_b255, if_neg (p_nle (by omega) (by omega)), if_neg (by decide), hlast, Option.bind_some, mVw, Option.bind_some]
        by_cases hv : vwB (smF (fe l i)) = true
        · rw [if_pos hv, if_pos hv, if_neg (by decide), e285]
        · rw [if_neg hv, if_neg hv, if_pos rfl, jf_Model_ruleOf_b286, nI_1]
      refine ⟨fun hz => ?_, fun hz h => ?_, fun hz ⟨j, q1, q2, q3⟩ => ?_⟩
      · rw [jf_Model_ruleOf_b255, if_neg (p_nle (by omega) (by omega)), if_pos hz, e285]
      · rw [hz, hone, if_neg (h i (Nat.le_refl i) (by omega))]
        exact h1a rfl (fun j q1 q2 => h j (by omega) q2)
      · rw [hz, hone]
        by_cases hv : vwB (smF (fe l i)) = true
        · rw [if_pos hv]
        · rw [if_neg hv]
          refine h1b rfl ⟨j, ?_, q2, q3⟩
          rcases Nat.lt_or_ge i j with r | r
          · omega
          · have : j = i := by omega
            rw [this] at q3
            exact absurd q3 hv
