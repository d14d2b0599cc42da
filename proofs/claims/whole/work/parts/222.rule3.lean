/-! the reference's rule of joining -/
section MR
variable {N n : Nat} {l : List Int32} {a : Nat → Int32}
theorem mLastAt {i : Nat} (ha : ar a l) (h7 : txt7 l) (hl : l.length ≤ 7999) (hn : n ≤ l.length) (hi : i < 10000) : jf_Model_last (nI i) (nI l.length) (nI n) a = some (if i < n then smF (fe l i) else 0) := by
  rcases mLast_at (i := i) ha h7 hl hn with q | q
  · exact q
  · omega
def cl3 (l : List Int32) (n : Nat) (A B : Int32) : Prop := 3 ≤ n ∧ ¬ vwB A = true ∧ ¬ A = 119 ∧ ¬ A = 120 ∧ ¬ A = 121 ∧ vwB B = true ∧ (∀ j, 2 ≤ j → j < n → ¬ vwB (smF (fe l j)) = true)
/-- the last rule but one: vx is 1 where the suffix begins by a vowel -/
theorem m189 {vx : Int32} {A B : Int32} (hN : 9000 ≤ N) (ha : ar a l) (h7 : txt7 l) (hl : l.length ≤ 7999) (hn : n ≤ l.length) : (cl3 l n A B → jf_Model_ruleOf_b189 N (nI l.length) (nI n) a vx A B = jf_Model_ruleOf_b294 vx 1) ∧ (¬ cl3 l n A B → jf_Model_ruleOf_b189 N (nI l.length) (nI n) a vx A B = some 5) := by
  obtain ⟨z0, z1, z2⟩ := mCl (N := N) (vx := vx) ha h7 hl hn n 3 N 0 (by omega) (by omega) (by omega)
  obtain ⟨-, y1, y2⟩ := mCl (N := N) (vx := vx) ha h7 hl hn n 3 N 1 (by omega) (by omega) (by omega)
  have e249 : jf_Model_ruleOf_b249 N (nI l.length) (nI n) a vx = some 5 := by
    rw [jf_Model_ruleOf_b249, jf_Model_ruleOf_b250]
    exact z0 rfl
  rw [jf_Model_ruleOf_b189]
  by_cases h3 : 3 ≤ n
  · rw [if_neg (show ¬ nI n < 3 from p_nlt (b := 3) h3 (by omega)), mVw, Option.bind_some]
    by_cases hA : vwB A = true
    · rw [if_pos hA, if_neg (by decide), e249]
      exact ⟨fun q => absurd hA q.2.1, fun _ => rfl⟩
    · rw [if_neg hA, if_pos rfl]
      by_cases c1 : A = 119
      · rw [if_pos c1, e249]
        exact ⟨fun q => absurd c1 q.2.2.1, fun _ => rfl⟩
      · rw [if_neg c1]
        by_cases c2 : A = 120
        · rw [if_pos c2, e249]
          exact ⟨fun q => absurd c2 q.2.2.2.1, fun _ => rfl⟩
        · rw [if_neg c2]
          by_cases c3 : A = 121
          · rw [if_pos c3, e249]
            exact ⟨fun q => absurd c3 q.2.2.2.2.1, fun _ => rfl⟩
          · rw [if_neg c3, mVw, Option.bind_some]
            by_cases hB : vwB B = true
            · have h2 : jf_Model_last 2 (nI l.length) (nI n) a = some (smF (fe l 2)) := by
                have := mLastAt (i := 2) ha h7 hl hn (by omega)
                rw [if_pos (by omega)] at this
                exact this
              rw [if_pos hB, if_neg (by decide), h2, Option.bind_some, mVw, Option.bind_some]
              by_cases h22 : vwB (smF (fe l 2)) = true
              · rw [if_pos h22, if_neg (by decide), e249]
                exact ⟨fun q => absurd h22 (q.2.2.2.2.2.2 2 (Nat.le_refl 2) (by omega)), fun _ => rfl⟩
              · rw [if_neg h22, if_pos rfl, jf_Model_ruleOf_b250]
                refine ⟨fun q => y1 rfl (fun j q1 q2 => q.2.2.2.2.2.2 j (by omega) q2), fun q => y2 rfl ?_⟩
                refine Classical.byContradiction fun q' => q ⟨h3, hA, c1, c2, c3, hB, fun j q1 q2 q3 => ?_⟩
                by_cases e : j = 2
                · rw [e] at q3; exact h22 q3
                · exact q' ⟨j, by omega, q2, q3⟩
            · rw [if_neg hB, if_pos rfl, e249]
              exact ⟨fun q => absurd q.2.2.2.2.2.1 hB, fun _ => rfl⟩
  · rw [if_pos (show nI n < 3 from p_ylt (b := 3) (by omega) (by omega)), e249]
    exact ⟨fun q => absurd q.1 h3, fun _ => rfl⟩
theorem m147 {vx : Int32} {A B : Int32} (hn8 : n < 100000) : jf_Model_ruleOf_b147 N (nI l.length) (nI n) a vx A B = if A = 101 ∧ 2 ≤ n ∧ ¬ B = 101 ∧ ¬ B = 111 ∧ ¬ B = 121 ∧ ¬ vx = 0 then some 3 else jf_Model_ruleOf_b189 N (nI l.length) (nI n) a vx A B := by
  rw [jf_Model_ruleOf_b147]
  by_cases h1 : A = 101
  · rw [if_pos h1]
    by_cases h2 : 2 ≤ n
    · rw [if_neg (show ¬ nI n < 2 from p_nlt (b := 2) h2 (by omega))]
      by_cases h3 : B = 101
      · rw [if_pos h3, if_neg (fun q => q.2.2.1 h3)]
      · rw [if_neg h3]
        by_cases h4 : B = 111
        · rw [if_pos h4, if_neg (fun q => q.2.2.2.1 h4)]
        · rw [if_neg h4]
          by_cases h5 : B = 121
          · rw [if_pos h5, if_neg (fun q => q.2.2.2.2.1 h5)]
          · rw [if_neg h5]
            by_cases h6 : vx = 0
            · rw [if_pos h6, if_neg (fun q => q.2.2.2.2.2 h6)]
            · rw [if_neg h6, if_pos ⟨h1, h2, h3, h4, h5, h6⟩]
    · rw [if_pos (show nI n < 2 from p_ylt (b := 2) (by omega) (by omega)), if_neg (fun q => h2 q.2.1)]
  · rw [if_neg h1, if_neg (fun q => h1 q.1)]
theorem m87 {z vx : Int32} {A B : Int32} : jf_Model_ruleOf_b87 N (nI l.length) (nI n) a z vx A B = if ¬ z = 0 ∧ hsB A B = true then some 2 else jf_Model_ruleOf_b147 N (nI l.length) (nI n) a vx A B := by
  have e129 : jf_Model_ruleOf_b129 N (nI l.length) (nI n) a z vx A B = if z = 0 then jf_Model_ruleOf_b147 N (nI l.length) (nI n) a vx A B else some 2 := by
    rw [jf_Model_ruleOf_b129, jf_Model_ruleOf_b134, if_neg (by decide : ¬ (1 : Int32) = 0)]
  have e133 : jf_Model_ruleOf_b133 N (nI l.length) (nI n) a z vx A B = jf_Model_ruleOf_b147 N (nI l.length) (nI n) a vx A B := by
    rw [jf_Model_ruleOf_b133, jf_Model_ruleOf_b134, if_pos (rfl : (0 : Int32) = 0)]
    by_cases hz : z = 0
    · rw [if_pos hz]
    · rw [if_neg hz]
  rw [jf_Model_ruleOf_b87]
  simp only [e129, e133]
  generalize jf_Model_ruleOf_b147 N (nI l.length) (nI n) a vx A B = Y
  unfold hsB
  by_cases q1 : A = 115 <;> by_cases q2 : A = 120 <;> by_cases q3 : A = 122 <;> by_cases q4 : A = 104 <;> by_cases q5 : B = 99 <;> by_cases q6 : B = 115 <;> by_cases hz : z = 0 <;> simp [q1, q2, q3, q4, q5, q6, hz]
theorem mRule_ok {k ns : Nat} {s : Bool} {x : Int32} {atm atx : Nat → Int32} (hN : 9000 ≤ N) (ha : ar a l) (h7 : txt7 l) (hl : l.length ≤ 7999) (hn : n ≤ l.length) (hn1 : 1 ≤ n) (hk : k < 60) (hns : 1 ≤ ns) (hns16 : ns ≤ 16) (htm : atm k = nI ns) (hx : atx (16 * k) = x) (hxs : isSm x) (hs : s = true ↔ ns = 1 ∧ x = 115) : jf_Model_ruleOf N (nI k) (nI l.length) (nI n) a atm atx = some (rl l n x s) := by
  have hlow : (x &&& 255) = x := by
    obtain ⟨m, m1, m2, e⟩ := isSm_nI hxs
    rw [e]
    have : ∀ m, m < 123 → (nI m &&& 255) = nI m := by decide +kernel
    exact this m (by omega)
  have hby : jf_Model_byteOf (nI k) 0 atx = some x := by
    have h0 : (16 * nI k + 0 : Int32) = nI (16 * k) := by
      rw [show (16 : Int32) = nI 16 from rfl, show (0 : Int32) = nI 0 from rfl, pk_mul, nI_add, Nat.add_zero]
    rw [jf_Model_byteOf, h0, p_ga (by omega) (by omega), p_cl (by omega), hx, hlow]
  have l0 : jf_Model_last 0 (nI l.length) (nI n) a = some (smF (fe l 0)) := by
    have := mLastAt (i := 0) ha h7 hl hn (by omega)
    rw [if_pos (by omega)] at this
    exact this
  have l1 : jf_Model_last 1 (nI l.length) (nI n) a = some (w1 l n) := mLastAt (i := 1) ha h7 hl hn (by omega)
  have e26 : ∀ z : Int32, (¬ z = 0 ↔ s = true) → jf_Model_ruleOf_b26 N (nI k) (nI l.length) (nI n) a atx z = some (rl l n x s) := by
    intro z hz
    have e87 : ¬ (smF (fe l 0) = 121 ∧ 2 ≤ n ∧ ¬ vwB (w1 l n) = true ∧ ¬ x = 105) → jf_Model_ruleOf_b87 N (nI l.length) (nI n) a z (if vwB x = true then 1 else 0) (smF (fe l 0)) (w1 l n) = some (rl l n x s) := by
      intro c1
      unfold rl
      rw [if_neg c1, m87]
      by_cases c2 : s = true ∧ hsB (smF (fe l 0)) (w1 l n) = true
      · rw [if_pos ⟨hz.mpr c2.1, c2.2⟩, if_pos c2]
      · rw [if_neg (fun q => c2 ⟨hz.mp q.1, q.2⟩), if_neg c2, m147 (by omega)]
        by_cases c3 : vwB x = true
        · rw [if_pos c3, if_neg (fun q : ¬ vwB x = true => q c3)]
          by_cases c4 : smF (fe l 0) = 101 ∧ 2 ≤ n ∧ ¬ w1 l n = 101 ∧ ¬ w1 l n = 111 ∧ ¬ w1 l n = 121
          · rw [if_pos ⟨c4.1, c4.2.1, c4.2.2.1, c4.2.2.2.1, c4.2.2.2.2, by decide⟩, if_pos c4]
          · rw [if_neg (fun q => c4 ⟨q.1, q.2.1, q.2.2.1, q.2.2.2.1, q.2.2.2.2.1⟩), if_neg c4]
            obtain ⟨k1, k2⟩ := m189 (vx := 1) (A := smF (fe l 0)) (B := w1 l n) hN ha h7 hl hn
            have e294 : jf_Model_ruleOf_b294 1 1 = some 4 := by decide
            rw [e294] at k1
            by_cases h3 : 3 ≤ n
            · have hw : w1 l n = smF (fe l 1) := if_pos (by omega)
              rw [hw] at k1 k2 ⊢
              by_cases hB : vwB (smF (fe l 1)) = true
              · have hone := cv_one (l := l) (n := n) (by omega) hB
                by_cases c5 : 3 ≤ n ∧ ¬ smF (fe l 0) = 119 ∧ ¬ smF (fe l 0) = 120 ∧ ¬ smF (fe l 0) = 121 ∧ vwB (smF (fe l 1)) = true ∧ cv l n = 1
                · obtain ⟨d1, d2⟩ := hone.mp c5.2.2.2.2.2
                  rw [k1 ⟨h3, d1, c5.2.1, c5.2.2.1, c5.2.2.2.1, hB, d2⟩, if_pos c5]
                · rw [k2 (fun q => c5 ⟨h3, q.2.2.1, q.2.2.2.1, q.2.2.2.2.1, hB, hone.mpr ⟨q.2.1, q.2.2.2.2.2.2⟩⟩), if_neg c5]
              · rw [k2 (fun q => hB q.2.2.2.2.2.1), if_neg (fun q => hB q.2.2.2.2.1)]
            · rw [k2 (fun q => h3 q.1), if_neg (fun q => h3 q.1)]
        · rw [if_neg c3, if_pos c3]
          obtain ⟨k1, k2⟩ := m189 (vx := 0) (A := smF (fe l 0)) (B := w1 l n) hN ha h7 hl hn
          have e294 : jf_Model_ruleOf_b294 0 1 = some 5 := by decide
          rw [e294] at k1
          rw [if_neg (fun q : smF (fe l 0) = 101 ∧ 2 ≤ n ∧ ¬ w1 l n = 101 ∧ ¬ w1 l n = 111 ∧ ¬ w1 l n = 121 ∧ ¬ (0 : Int32) = 0 => q.2.2.2.2.2 rfl)]
          exact (Classical.em (cl3 l n (smF (fe l 0)) (w1 l n))).elim k1 k2
    rw [jf_Model_ruleOf_b26, hby, Option.bind_some, mVw, Option.bind_some, l0, Option.bind_some, l1, Option.bind_some]
    by_cases h2 : 2 ≤ n
    · rw [if_neg (show ¬ nI n < 2 from p_nlt (b := 2) h2 (by omega))]
      by_cases h121 : smF (fe l 0) = 121
      · rw [if_pos h121, mVw, Option.bind_some]
        by_cases hv : vwB (w1 l n) = true
        · rw [if_pos hv, if_neg (by decide)]
          exact e87 (fun q => q.2.2.1 hv)
        · rw [if_neg hv, if_pos rfl, Option.bind_some]
          by_cases h105 : x = 105
          · rw [if_pos h105]
            exact e87 (fun q => q.2.2.2 h105)
          · rw [if_neg h105]
            unfold rl
            rw [if_pos ⟨h121, h2, hv, h105⟩]
      · rw [if_neg h121]
        exact e87 (fun q => h121 q.1)
    · rw [if_pos (show nI n < 2 from p_ylt (b := 2) (by omega) (by omega))]
      exact e87 (fun q => h2 q.2.1)
  rw [jf_Model_ruleOf, p_ga (by omega) (by omega), p_cl (by omega), htm]
  by_cases h1 : ns = 1
  · rw [if_pos (show nI ns = 1 from by rw [h1]; rfl), hby, Option.bind_some]
    by_cases h115 : x = 115
    · rw [if_pos h115]
      exact e26 1 ⟨fun _ => hs.mpr ⟨h1, h115⟩, fun _ => by decide⟩
    · rw [if_neg h115, jf_Model_ruleOf_b25]
      exact e26 0 ⟨fun q => absurd rfl q, fun q => absurd (hs.mp q).2 h115⟩
  · rw [if_neg (show ¬ nI ns = 1 from p_ne (b := 1) h1 (by omega) (by omega)), jf_Model_ruleOf_b25]
    exact e26 0 ⟨fun q => absurd rfl q, fun q => absurd (hs.mp q).1 h1⟩
end MR
