/-! the book of the class: its readings -/
theorem p_sm (x : Int32) : x - 1 = x + (-1) := by
  rw [Int32.sub_eq_add_neg]
theorem Book_strokesOf_in {k ne : Nat} {sc : Nat → Int32} (hk : k < ne) (hn : ne ≤ 60) : jf_Book_strokesOf (nI k) (nI ne) sc = some (sc k) := by
  rw [jf_Book_strokesOf, if_neg (p_n0 (by omega)), if_neg (p_nle hk (by omega)), p_ga (by omega) (by omega), p_cl (by omega)]
theorem Book_lengthOf_in {k ne : Nat} {ln : Nat → Int32} (hk : k < ne) (hn : ne ≤ 60) : jf_Book_lengthOf (nI k) (nI ne) ln = some (ln k) := by
  rw [jf_Book_lengthOf, if_neg (p_n0 (by omega)), if_neg (p_nle hk (by omega)), p_ga (by omega) (by omega), p_cl (by omega)]
theorem Book_kindOf_in {k ne : Nat} {kd : Nat → Int32} (hk : k < ne) (hn : ne ≤ 60) : jf_Book_kindOf (nI k) (nI ne) kd = some (kd k) := by
  rw [jf_Book_kindOf, if_neg (p_n0 (by omega)), if_neg (p_nle hk (by omega)), p_ga (by omega) (by omega), p_cl (by omega)]
theorem Book_kindOf_m1 {n : Int32} {kd : Nat → Int32} : jf_Book_kindOf (-1) n kd = some (-1) := by
  rw [jf_Book_kindOf, if_pos (by decide)]
theorem Book_has_in {j n : Nat} (h : j < n) (hn : n ≤ 60) : jf_Book_has (nI j) (nI n) = some 1 := by
  rw [jf_Book_has, if_neg (p_n0 (by omega)), if_neg (p_nle h (by omega))]
theorem Book_has_neg {x y : Int32} (h : x < 0) : jf_Book_has x y = some 0 := by
  rw [jf_Book_has, if_pos h]
theorem Book_has_big {x y : Int32} (h : y ≤ x) (h0 : ¬ x < 0) : jf_Book_has x y = some 0 := by
  rw [jf_Book_has, if_neg h0, if_pos h]
theorem Book_letterAt_in {k i n ne : Nat} {ln tx : Nat → Int32} (hk : k < ne) (hn : ne ≤ 60) (hl : ln k = nI n) (hi : i < n) (hn16 : n ≤ 16) : jf_Book_letterAt (nI k) (nI i) (nI ne) ln tx = some (tx (16 * k + i)) := by
  rw [jf_Book_letterAt, if_neg (p_n0 (by omega)), if_neg (p_nle hk (by omega)), if_neg (p_n0 (by omega)), p_ga (by omega) (by omega), p_cl (by omega), hl, if_neg (p_nle hi (by omega)), jf_Book_letterAt_b31, if_neg (by decide), p_lit 16, pk_mul, nI_add, p_ga (by omega) (by omega), p_cl (by omega), Nat.mul_comm k 16]
theorem Book_strokeAt_in {k i n ne : Nat} {sc st : Nat → Int32} (hk : k < ne) (hn : ne ≤ 60) (hl : sc k = nI n) (hi : i < n) (hn5 : n ≤ 5) : jf_Book_strokeAt (nI k) (nI i) (nI ne) sc st = some (st (5 * k + i)) := by
  rw [jf_Book_strokeAt, if_neg (p_n0 (by omega)), if_neg (p_nle hk (by omega)), if_neg (p_n0 (by omega)), p_ga (by omega) (by omega), p_cl (by omega), hl, if_neg (p_nle hi (by omega)), jf_Book_strokeAt_b31, if_neg (by decide), p_lit 5, pk_mul, nI_add, p_ga (by omega) (by omega), p_cl (by omega), Nat.mul_comm k 5]
/-- strokes compared from the last one on -/
theorem ol_loop {k f n L : Nat} {row st : Nat → Int32} (hk : k < 60) (hn : n ≤ 5) (hf : f + n ≤ L) (hL : L ≤ 300) : ∀ (i g : Nat), i ≤ n → i < g →
    ((∀ j, j < i → row (f + j) = st (5 * k + j)) → jf_Book_isOutlineAt_b28 (nI k) (nI f) L row st g (nI i + (-1)) = some 1) ∧
    ((∃ j, j < i ∧ row (f + j) ≠ st (5 * k + j)) → jf_Book_isOutlineAt_b28 (nI k) (nI f) L row st g (nI i + (-1)) = some 0) := by
  intro i
  induction i with
  | zero =>
    intro g hi hg
    obtain ⟨g, rfl⟩ : ∃ z, g = z + 1 := ⟨g - 1, by omega⟩
    refine ⟨fun _ => ?_, fun ⟨j, hj, _⟩ => by omega⟩
    rw [jf_Book_isOutlineAt_b28, if_pos (by decide)]
  | succ i ih =>
    intro g hi hg
    obtain ⟨g, rfl⟩ : ∃ z, g = z + 1 := ⟨g - 1, by omega⟩
    obtain ⟨ih1, ih2⟩ := ih g (by omega) (by omega)
    have e : jf_Book_isOutlineAt_b28 (nI k) (nI f) L row st (g + 1) (nI (i + 1) + (-1)) = if row (f + i) = st (5 * k + i) then jf_Book_isOutlineAt_b28 (nI k) (nI f) L row st g (nI i + (-1)) else some 0 := by
      rw [p_d1 (by omega), Nat.add_sub_cancel, jf_Book_isOutlineAt_b28, if_neg (p_n0 (by omega)), p_lit 5, pk_mul, nI_add, nI_add, p_ga (by omega) (by omega), p_ga (by omega) (by omega), p_cl (by omega), p_cl (by omega), Nat.mul_comm k 5]
    refine ⟨fun h => ?_, fun ⟨j, hj, h⟩ => ?_⟩
    · rw [e, if_pos (h i (by omega))]
      exact ih1 (fun j hj => h j (by omega))
    · by_cases h0 : row (f + i) = st (5 * k + i)
      · rw [e, if_pos h0]
        refine ih2 ⟨j, ?_, h⟩
        rcases Nat.lt_or_ge j i with q | q
        · exact q
        · have : j = i := by omega
          subst this
          exact absurd h0 h
      · rw [e, if_neg h0]
theorem isOutlineAt_y {N k f n L ne : Nat} {row sc st : Nat → Int32} (hN : 6 ≤ N) (hk : k < ne) (hne : ne ≤ 60) (hs : sc k = nI n) (hn : n ≤ 5) (hf : f + n ≤ L) (hL : L ≤ 300) (h : ∀ j, j < n → row (f + j) = st (5 * k + j)) : jf_Book_isOutlineAt N (nI k) (nI f) L (nI ne) row sc st = some 1 := by
  rw [jf_Book_isOutlineAt, Book_strokesOf_in hk hne, Option.bind_some, hs, if_neg (p_n0 (by omega)), p_sub (by omega), if_pos (p_yle (by omega) (by omega)), p_sm]
  exact (ol_loop (by omega) hn hf hL n N (Nat.le_refl n) (by omega)).1 h
theorem isOutlineAt_n {N k f n L ne : Nat} {row sc st : Nat → Int32} (hN : 6 ≤ N) (hk : k < ne) (hne : ne ≤ 60) (hs : sc k = nI n) (hn : n ≤ 5) (hf : f + n ≤ L) (hL : L ≤ 300) (h : ¬ ∀ j, j < n → row (f + j) = st (5 * k + j)) : jf_Book_isOutlineAt N (nI k) (nI f) L (nI ne) row sc st = some 0 := by
  rw [jf_Book_isOutlineAt, Book_strokesOf_in hk hne, Option.bind_some, hs, if_neg (p_n0 (by omega)), p_sub (by omega), if_pos (p_yle (by omega) (by omega)), p_sm]
  refine (ol_loop (by omega) hn hf hL n N (Nat.le_refl n) (by omega)).2 ?_
  exact Classical.byContradiction fun q => h fun j hj => Classical.byContradiction fun q2 => q ⟨j, hj, q2⟩
theorem hasOutline_loop {N n ne : Nat} {sc : Nat → Nat} {row asc st : Nat → Int32} (hN : 6 ≤ N) (hne : ne ≤ 60) (hn : n ≤ 5) (hsc : ∀ k, k < ne → asc k = nI (sc k) ∧ sc k ≤ 5) : ∀ (d k g : Nat), k + d = ne → d < g →
    ((∃ m, k ≤ m ∧ m < ne ∧ mt sc st row 0 n m) → jf_Book_hasOutline_b2 N (nI n) 5 (nI ne) row asc st g (nI k) = some 1) ∧
    ((∀ m, k ≤ m → m < ne → ¬ mt sc st row 0 n m) → jf_Book_hasOutline_b2 N (nI n) 5 (nI ne) row asc st g (nI k) = some 0) := by
  intro d
  induction d with
  | zero =>
    intro k g hk hg
    obtain ⟨g, rfl⟩ : ∃ z, g = z + 1 := ⟨g - 1, by omega⟩
    refine ⟨fun ⟨m, h1, h2, _⟩ => by omega, fun _ => ?_⟩
    rw [jf_Book_hasOutline_b2, if_pos (p_yle (by omega) (by omega))]
  | succ d ih =>
    intro k g hk hg
    obtain ⟨g, rfl⟩ : ∃ z, g = z + 1 := ⟨g - 1, by omega⟩
    obtain ⟨ih1, ih2⟩ := ih (k + 1) g (by omega) (by omega)
    obtain ⟨hs1, hs2⟩ := hsc k (by omega)
    have e : jf_Book_hasOutline_b2 N (nI n) 5 (nI ne) row asc st (g + 1) (nI k) = if asc k = nI n then (jf_Book_isOutlineAt N (nI k) 0 5 (nI ne) row asc st).bind (fun r24 => if r24 = 0 then jf_Book_hasOutline_b2 N (nI n) 5 (nI ne) row asc st g (nI (k + 1)) else some 1) else jf_Book_hasOutline_b2 N (nI n) 5 (nI ne) row asc st g (nI (k + 1)) := by
      rw [jf_Book_hasOutline_b2, if_neg (p_nle (by omega) (by omega)), p_ga (by omega) (by omega), p_cl (by omega)]
      simp only [jf_Book_hasOutline_b32, nI_1]
    have hyes : mt sc st row 0 n k → jf_Book_hasOutline_b2 N (nI n) 5 (nI ne) row asc st (g + 1) (nI k) = some 1 := by
      intro hm
      rw [e, if_pos (by rw [hs1, hm.1]), p_lit 0, isOutlineAt_y (n := n) hN (by omega) hne (by rw [hs1, hm.1]) hn (by omega) (by omega) (fun j hj => (hm.2 j hj).symm), Option.bind_some, if_neg (by decide)]
    have hno : ¬ mt sc st row 0 n k → jf_Book_hasOutline_b2 N (nI n) 5 (nI ne) row asc st (g + 1) (nI k) = jf_Book_hasOutline_b2 N (nI n) 5 (nI ne) row asc st g (nI (k + 1)) := by
      intro hm
      rw [e]
      by_cases hc : sc k = n
      · rw [if_pos (by rw [hs1, hc]), p_lit 0, isOutlineAt_n (n := n) hN (by omega) hne (by rw [hs1, hc]) hn (by omega) (by omega) (fun hj => hm ⟨hc, fun i hi => (hj i hi).symm⟩), Option.bind_some, if_pos nI_0.symm]
      · rw [if_neg (by rw [hs1]; exact p_ne hc (by omega) (by omega))]
    refine ⟨fun ⟨m, h1, h2, h3⟩ => ?_, fun h => ?_⟩
    · by_cases hm : mt sc st row 0 n k
      · exact hyes hm
      · rw [hno hm]
        refine ih1 ⟨m, ?_, h2, h3⟩
        rcases Nat.lt_or_ge k m with q | q
        · omega
        · have : m = k := by omega
          subst this
          exact absurd h3 hm
    · rw [hno (h k (Nat.le_refl k) (by omega))]
      exact ih2 (fun m q1 q2 => h m (by omega) q2)
