/-! entries: the outline that stands at a place of a row -/
/-- entry k has n strokes, and they stand in the row from f on -/
def mt (sc : Nat → Nat) (st row : Nat → Int32) (f n k : Nat) : Prop := sc k = n ∧ ∀ i, i < n → st (5 * k + i) = row (f + i)
/-- what both sides' rows of entries hold -/
def bkC (ne : Nat) (kd : Nat → Int32) (sc : Nat → Nat) (st : Nat → Int32) (ln : Nat → Nat) (tx : Nat → Int32) (size : Int32) (ak asc ast al atx : Nat → Int32) : Prop := size = nI ne ∧ ∀ k, k < ne → ak k = kd k ∧ asc k = nI (sc k) ∧ al k = nI (ln k) ∧ (∀ i, i < sc k → ast (5 * k + i) = st (5 * k + i)) ∧ ∀ i, i < ln k → atx (16 * k + i) = tx (16 * k + i)

section EOrecord
variable {row ss sm : Nat → Int32}
/-- the inner loop at entry k, from stroke i on: it goes to the end with 1 where all strokes are alike, else on to the next entry -/
theorem eo_in_record {k3 : Int32 → Option Int32} {f n k : Nat} (hk : k < 61) (hn : n ≤ 5) (hf : f + n ≤ 300) : ∀ (d i g : Nat), i + d = n → d < g →
    ((∀ j, i ≤ j → j < n → ss (5 * k + j) = row (f + j)) → jf_Model_entryOf_record_b33 (nI f) (nI n) row ss k3 g (nI k) 1 (nI i) = some (nI k)) ∧
    ((∃ j, i ≤ j ∧ j < n ∧ ss (5 * k + j) ≠ row (f + j)) → jf_Model_entryOf_record_b33 (nI f) (nI n) row ss k3 g (nI k) 1 (nI i) = k3 (nI (k + 1))) := by
  intro d
  induction d with
  | zero =>
    intro i g hi hg
    obtain ⟨g, rfl⟩ : ∃ z, g = z + 1 := ⟨g - 1, by omega⟩
    refine ⟨fun _ => ?_, fun h => ?_⟩
    · rw [jf_Model_entryOf_record_b33, if_pos (p_yle (by omega) (by omega)), jf_Model_entryOf_record_b78, if_neg (by decide)]
    · obtain ⟨j, h1, h2, -⟩ := h
      omega
  | succ d ih =>
    intro i g hi hg
    obtain ⟨g, rfl⟩ : ∃ z, g = z + 1 := ⟨g - 1, by omega⟩
    obtain ⟨ih1, ih2⟩ := ih (i + 1) g (by omega) (by omega)
    have e : jf_Model_entryOf_record_b33 (nI f) (nI n) row ss k3 (g + 1) (nI k) 1 (nI i) = if ss (5 * k + i) = row (f + i) then jf_Model_entryOf_record_b33 (nI f) (nI n) row ss k3 g (nI k) 1 (nI (i + 1)) else jf_Model_entryOf_record_b33 (nI f) (nI n) row ss k3 g (nI k) 0 (nI (i + 1)) := by
      rw [jf_Model_entryOf_record_b33, if_neg (p_nle (by omega) (by omega)), if_neg (by decide), p_lit 5, pk_mul, nI_add, nI_add, p_ga (by omega) (by omega), p_ga (by omega) (by omega), p_cl (by omega), p_cl (by omega), jf_Model_entryOf_record_b70, jf_Model_entryOf_record_b70, nI_1]
    refine ⟨fun h => ?_, fun h => ?_⟩
    · rw [e, if_pos (h i (Nat.le_refl i) (by omega))]
      exact ih1 (fun j h1 h2 => h j (by omega) h2)
    · by_cases hi0 : ss (5 * k + i) = row (f + i)
      · rw [e, if_pos hi0]
        obtain ⟨j, h1, h2, h3⟩ := h
        refine ih2 ⟨j, ?_, h2, h3⟩
        rcases Nat.lt_or_ge i j with q | q
        · omega
        · have : j = i := by omega
          subst this
          exact absurd hi0 h3
      · rw [e, if_neg hi0]
        obtain ⟨g, rfl⟩ : ∃ z, g = z + 1 := ⟨g - 1, by omega⟩
        rw [jf_Model_entryOf_record_b33]
        by_cases hle : nI n ≤ nI (i + 1)
        · rw [if_pos hle, jf_Model_entryOf_record_b78, if_pos rfl, nI_1]
        · rw [if_neg hle, if_pos rfl, jf_Model_entryOf_record_b78, if_pos rfl, nI_1]
theorem eo_z_record {k3 : Int32 → Option Int32} {f n k g : Nat} : jf_Model_entryOf_record_b33 (nI f) (nI n) row ss k3 (g + 1) (nI k) 0 0 = k3 (nI (k + 1)) := by
  rw [jf_Model_entryOf_record_b33]
  by_cases hle : nI n ≤ 0
  · rw [if_pos hle, jf_Model_entryOf_record_b78, if_pos rfl, nI_1]
  · rw [if_neg hle, if_pos rfl, jf_Model_entryOf_record_b78, if_pos rfl, nI_1]
/-- the loop over the entries -/
theorem eo_out_record {sc : Nat → Nat} {N f n ne : Nat} (hne : ne ≤ 60) (hn : n ≤ 5) (hN : 7 ≤ N) (hf : f + n ≤ 300) (hsc : ∀ k, k < ne → sm k = nI (sc k) ∧ sc k ≤ 5) : ∀ (d k g : Nat), k + d = ne → d < g →
    (∀ m, k ≤ m → m < ne → mt sc ss row f n m → (∀ j, k ≤ j → j < m → ¬ mt sc ss row f n j) → jf_Model_entryOf_record_b3 N (nI f) (nI n) (nI ne) row sm ss g (nI k) = some (nI m)) ∧
    ((∀ j, k ≤ j → j < ne → ¬ mt sc ss row f n j) → jf_Model_entryOf_record_b3 N (nI f) (nI n) (nI ne) row sm ss g (nI k) = some (-1)) := by
  intro d
  induction d with
  | zero =>
    intro k g hk hg
    obtain ⟨g, rfl⟩ : ∃ z, g = z + 1 := ⟨g - 1, by omega⟩
    refine ⟨fun m h1 h2 => by omega, fun _ => ?_⟩
    rw [jf_Model_entryOf_record_b3, if_pos (p_yle (by omega) (by omega))]
  | succ d ih =>
    intro k g hk hg
    obtain ⟨g, rfl⟩ : ∃ z, g = z + 1 := ⟨g - 1, by omega⟩
    obtain ⟨M, rfl⟩ : ∃ z, N = z + 1 := ⟨N - 1, by omega⟩
    obtain ⟨ih1, ih2⟩ := ih (k + 1) g (by omega) (by omega)
    obtain ⟨hs1, hs2⟩ := hsc k (by omega)
    have e : jf_Model_entryOf_record_b3 (M + 1) (nI f) (nI n) (nI ne) row sm ss (g + 1) (nI k) = if sc k = n then jf_Model_entryOf_record_b33 (nI f) (nI n) row ss (jf_Model_entryOf_record_b3 (M + 1) (nI f) (nI n) (nI ne) row sm ss g) (M + 1) (nI k) 1 0 else jf_Model_entryOf_record_b3 (M + 1) (nI f) (nI n) (nI ne) row sm ss g (nI (k + 1)) := by
      rw [jf_Model_entryOf_record_b3, if_neg (p_nle (by omega) (by omega)), p_ga (by omega) (by omega), p_cl (by omega), hs1]
      by_cases hc : sc k = n
      · rw [if_pos (by rw [hc]), if_pos hc, jf_Model_entryOf_record_b28]
      · rw [if_neg (p_ne hc (by omega) (by omega)), if_neg hc, jf_Model_entryOf_record_b28, eo_z_record]
    have hin := eo_in_record (k3 := jf_Model_entryOf_record_b3 (M + 1) (nI f) (nI n) (nI ne) row sm ss g) (f := f) (n := n) (k := k) (row := row) (ss := ss) (by omega) hn hf n 0 (M + 1) (by omega) (by omega)
    have hno : ¬ mt sc ss row f n k → jf_Model_entryOf_record_b3 (M + 1) (nI f) (nI n) (nI ne) row sm ss (g + 1) (nI k) = jf_Model_entryOf_record_b3 (M + 1) (nI f) (nI n) (nI ne) row sm ss g (nI (k + 1)) := by
      intro hm
      rw [e]
      by_cases hc : sc k = n
      · rw [if_pos hc]
        refine hin.2 ?_
        refine Classical.byContradiction fun hx => hm ⟨hc, fun i hi => Classical.byContradiction fun h3 => hx ⟨i, Nat.zero_le i, hi, h3⟩⟩
      · rw [if_neg hc]
    refine ⟨fun m h1 h2 h3 h4 => ?_, fun h => ?_⟩
    · by_cases hkm : k = m
      · subst hkm
        rw [e, if_pos h3.1]
        exact hin.1 (fun j _ hj => h3.2 j hj)
      · rw [hno (h4 k (Nat.le_refl k) (by omega))]
        exact ih1 m (by omega) h2 h3 (fun j q1 q2 => h4 j (by omega) q2)
    · rw [hno (h k (Nat.le_refl k) (by omega))]
      exact ih2 (fun j q1 q2 => h j (by omega) q2)
end EOrecord

section EOtrial
variable {row ss sm : Nat → Int32}
/-- the inner loop at entry k, from stroke i on: it goes to the end with 1 where all strokes are alike, else on to the next entry -/
theorem eo_in_trial {k3 : Int32 → Option Int32} {f n k : Nat} (hk : k < 61) (hn : n ≤ 5) (hf : f + n ≤ 300) : ∀ (d i g : Nat), i + d = n → d < g →
    ((∀ j, i ≤ j → j < n → ss (5 * k + j) = row (f + j)) → jf_Model_entryOf_trial_b33 (nI f) (nI n) ss row k3 g (nI k) 1 (nI i) = some (nI k)) ∧
    ((∃ j, i ≤ j ∧ j < n ∧ ss (5 * k + j) ≠ row (f + j)) → jf_Model_entryOf_trial_b33 (nI f) (nI n) ss row k3 g (nI k) 1 (nI i) = k3 (nI (k + 1))) := by
  intro d
  induction d with
  | zero =>
    intro i g hi hg
    obtain ⟨g, rfl⟩ : ∃ z, g = z + 1 := ⟨g - 1, by omega⟩
    refine ⟨fun _ => ?_, fun h => ?_⟩
    · rw [jf_Model_entryOf_trial_b33, if_pos (p_yle (by omega) (by omega)), jf_Model_entryOf_trial_b78, if_neg (by decide)]
    · obtain ⟨j, h1, h2, -⟩ := h
      omega
  | succ d ih =>
    intro i g hi hg
    obtain ⟨g, rfl⟩ : ∃ z, g = z + 1 := ⟨g - 1, by omega⟩
    obtain ⟨ih1, ih2⟩ := ih (i + 1) g (by omega) (by omega)
    have e : jf_Model_entryOf_trial_b33 (nI f) (nI n) ss row k3 (g + 1) (nI k) 1 (nI i) = if ss (5 * k + i) = row (f + i) then jf_Model_entryOf_trial_b33 (nI f) (nI n) ss row k3 g (nI k) 1 (nI (i + 1)) else jf_Model_entryOf_trial_b33 (nI f) (nI n) ss row k3 g (nI k) 0 (nI (i + 1)) := by
      rw [jf_Model_entryOf_trial_b33, if_neg (p_nle (by omega) (by omega)), if_neg (by decide), p_lit 5, pk_mul, nI_add, nI_add, p_ga (by omega) (by omega), p_ga (by omega) (by omega), p_cl (by omega), p_cl (by omega), jf_Model_entryOf_trial_b70, jf_Model_entryOf_trial_b70, nI_1]
    refine ⟨fun h => ?_, fun h => ?_⟩
    · rw [e, if_pos (h i (Nat.le_refl i) (by omega))]
      exact ih1 (fun j h1 h2 => h j (by omega) h2)
    · by_cases hi0 : ss (5 * k + i) = row (f + i)
      · rw [e, if_pos hi0]
        obtain ⟨j, h1, h2, h3⟩ := h
        refine ih2 ⟨j, ?_, h2, h3⟩
        rcases Nat.lt_or_ge i j with q | q
        · omega
        · have : j = i := by omega
          subst this
          exact absurd hi0 h3
      · rw [e, if_neg hi0]
        obtain ⟨g, rfl⟩ : ∃ z, g = z + 1 := ⟨g - 1, by omega⟩
        rw [jf_Model_entryOf_trial_b33]
        by_cases hle : nI n ≤ nI (i + 1)
        · rw [if_pos hle, jf_Model_entryOf_trial_b78, if_pos rfl, nI_1]
        · rw [if_neg hle, if_pos rfl, jf_Model_entryOf_trial_b78, if_pos rfl, nI_1]
theorem eo_z_trial {k3 : Int32 → Option Int32} {f n k g : Nat} : jf_Model_entryOf_trial_b33 (nI f) (nI n) ss row k3 (g + 1) (nI k) 0 0 = k3 (nI (k + 1)) := by
  rw [jf_Model_entryOf_trial_b33]
  by_cases hle : nI n ≤ 0
  · rw [if_pos hle, jf_Model_entryOf_trial_b78, if_pos rfl, nI_1]
  · rw [if_neg hle, if_pos rfl, jf_Model_entryOf_trial_b78, if_pos rfl, nI_1]
/-- the loop over the entries -/
theorem eo_out_trial {sc : Nat → Nat} {N f n ne : Nat} (hne : ne ≤ 60) (hn : n ≤ 5) (hN : 7 ≤ N) (hf : f + n ≤ 300) (hsc : ∀ k, k < ne → sm k = nI (sc k) ∧ sc k ≤ 5) : ∀ (d k g : Nat), k + d = ne → d < g →
    (∀ m, k ≤ m → m < ne → mt sc ss row f n m → (∀ j, k ≤ j → j < m → ¬ mt sc ss row f n j) → jf_Model_entryOf_trial_b3 N (nI f) (nI n) (nI ne) sm ss row g (nI k) = some (nI m)) ∧
    ((∀ j, k ≤ j → j < ne → ¬ mt sc ss row f n j) → jf_Model_entryOf_trial_b3 N (nI f) (nI n) (nI ne) sm ss row g (nI k) = some (-1)) := by
  intro d
  induction d with
  | zero =>
    intro k g hk hg
    obtain ⟨g, rfl⟩ : ∃ z, g = z + 1 := ⟨g - 1, by omega⟩
    refine ⟨fun m h1 h2 => by omega, fun _ => ?_⟩
    rw [jf_Model_entryOf_trial_b3, if_pos (p_yle (by omega) (by omega))]
  | succ d ih =>
    intro k g hk hg
    obtain ⟨g, rfl⟩ : ∃ z, g = z + 1 := ⟨g - 1, by omega⟩
    obtain ⟨M, rfl⟩ : ∃ z, N = z + 1 := ⟨N - 1, by omega⟩
    obtain ⟨ih1, ih2⟩ := ih (k + 1) g (by omega) (by omega)
    obtain ⟨hs1, hs2⟩ := hsc k (by omega)
    have e : jf_Model_entryOf_trial_b3 (M + 1) (nI f) (nI n) (nI ne) sm ss row (g + 1) (nI k) = if sc k = n then jf_Model_entryOf_trial_b33 (nI f) (nI n) ss row (jf_Model_entryOf_trial_b3 (M + 1) (nI f) (nI n) (nI ne) sm ss row g) (M + 1) (nI k) 1 0 else jf_Model_entryOf_trial_b3 (M + 1) (nI f) (nI n) (nI ne) sm ss row g (nI (k + 1)) := by
      rw [jf_Model_entryOf_trial_b3, if_neg (p_nle (by omega) (by omega)), p_ga (by omega) (by omega), p_cl (by omega), hs1]
      by_cases hc : sc k = n
      · rw [if_pos (by rw [hc]), if_pos hc, jf_Model_entryOf_trial_b28]
      · rw [if_neg (p_ne hc (by omega) (by omega)), if_neg hc, jf_Model_entryOf_trial_b28, eo_z_trial]
    have hin := eo_in_trial (k3 := jf_Model_entryOf_trial_b3 (M + 1) (nI f) (nI n) (nI ne) sm ss row g) (f := f) (n := n) (k := k) (row := row) (ss := ss) (by omega) hn hf n 0 (M + 1) (by omega) (by omega)
    have hno : ¬ mt sc ss row f n k → jf_Model_entryOf_trial_b3 (M + 1) (nI f) (nI n) (nI ne) sm ss row (g + 1) (nI k) = jf_Model_entryOf_trial_b3 (M + 1) (nI f) (nI n) (nI ne) sm ss row g (nI (k + 1)) := by
      intro hm
      rw [e]
      by_cases hc : sc k = n
      · rw [if_pos hc]
        refine hin.2 ?_
        refine Classical.byContradiction fun hx => hm ⟨hc, fun i hi => Classical.byContradiction fun h3 => hx ⟨i, Nat.zero_le i, hi, h3⟩⟩
      · rw [if_neg hc]
    refine ⟨fun m h1 h2 h3 h4 => ?_, fun h => ?_⟩
    · by_cases hkm : k = m
      · subst hkm
        rw [e, if_pos h3.1]
        exact hin.1 (fun j _ hj => h3.2 j hj)
      · rw [hno (h4 k (Nat.le_refl k) (by omega))]
        exact ih1 m (by omega) h2 h3 (fun j q1 q2 => h4 j (by omega) q2)
    · rw [hno (h k (Nat.le_refl k) (by omega))]
      exact ih2 (fun j q1 q2 => h j (by omega) q2)
end EOtrial

section EOstrokes
variable {row ss sm : Nat → Int32}
/-- the inner loop at entry k, from stroke i on: it goes to the end with 1 where all strokes are alike, else on to the next entry -/
theorem eo_in_strokes {k3 : Int32 → Option Int32} {f n k : Nat} (hk : k < 61) (hn : n ≤ 5) (hf : f + n ≤ 305) : ∀ (d i g : Nat), i + d = n → d < g →
    ((∀ j, i ≤ j → j < n → ss (5 * k + j) = ss (f + j)) → jf_Model_entryOf_strokes_b33 (nI f) (nI n) ss k3 g (nI k) 1 (nI i) = some (nI k)) ∧
    ((∃ j, i ≤ j ∧ j < n ∧ ss (5 * k + j) ≠ ss (f + j)) → jf_Model_entryOf_strokes_b33 (nI f) (nI n) ss k3 g (nI k) 1 (nI i) = k3 (nI (k + 1))) := by
  intro d
  induction d with
  | zero =>
    intro i g hi hg
    obtain ⟨g, rfl⟩ : ∃ z, g = z + 1 := ⟨g - 1, by omega⟩
    refine ⟨fun _ => ?_, fun h => ?_⟩
    · rw [jf_Model_entryOf_strokes_b33, if_pos (p_yle (by omega) (by omega)), jf_Model_entryOf_strokes_b78, if_neg (by decide)]
    · obtain ⟨j, h1, h2, -⟩ := h
      omega
  | succ d ih =>
    intro i g hi hg
    obtain ⟨g, rfl⟩ : ∃ z, g = z + 1 := ⟨g - 1, by omega⟩
    obtain ⟨ih1, ih2⟩ := ih (i + 1) g (by omega) (by omega)
    have e : jf_Model_entryOf_strokes_b33 (nI f) (nI n) ss k3 (g + 1) (nI k) 1 (nI i) = if ss (5 * k + i) = ss (f + i) then jf_Model_entryOf_strokes_b33 (nI f) (nI n) ss k3 g (nI k) 1 (nI (i + 1)) else jf_Model_entryOf_strokes_b33 (nI f) (nI n) ss k3 g (nI k) 0 (nI (i + 1)) := by
      rw [jf_Model_entryOf_strokes_b33, if_neg (p_nle (by omega) (by omega)), if_neg (by decide), p_lit 5, pk_mul, nI_add, nI_add, p_ga (by omega) (by omega), p_ga (by omega) (by omega), p_cl (by omega), p_cl (by omega), jf_Model_entryOf_strokes_b70, jf_Model_entryOf_strokes_b70, nI_1]
    refine ⟨fun h => ?_, fun h => ?_⟩
    · rw [e, if_pos (h i (Nat.le_refl i) (by omega))]
      exact ih1 (fun j h1 h2 => h j (by omega) h2)
    · by_cases hi0 : ss (5 * k + i) = ss (f + i)
      · rw [e, if_pos hi0]
        obtain ⟨j, h1, h2, h3⟩ := h
        refine ih2 ⟨j, ?_, h2, h3⟩
        rcases Nat.lt_or_ge i j with q | q
        · omega
        · have : j = i := by omega
          subst this
          exact absurd hi0 h3
      · rw [e, if_neg hi0]
        obtain ⟨g, rfl⟩ : ∃ z, g = z + 1 := ⟨g - 1, by omega⟩
        rw [jf_Model_entryOf_strokes_b33]
        by_cases hle : nI n ≤ nI (i + 1)
        · rw [if_pos hle, jf_Model_entryOf_strokes_b78, if_pos rfl, nI_1]
        · rw [if_neg hle, if_pos rfl, jf_Model_entryOf_strokes_b78, if_pos rfl, nI_1]
theorem eo_z_strokes {k3 : Int32 → Option Int32} {f n k g : Nat} : jf_Model_entryOf_strokes_b33 (nI f) (nI n) ss k3 (g + 1) (nI k) 0 0 = k3 (nI (k + 1)) := by
  rw [jf_Model_entryOf_strokes_b33]
  by_cases hle : nI n ≤ 0
  · rw [if_pos hle, jf_Model_entryOf_strokes_b78, if_pos rfl, nI_1]
  · rw [if_neg hle, if_pos rfl, jf_Model_entryOf_strokes_b78, if_pos rfl, nI_1]
/-- the loop over the entries -/
theorem eo_out_strokes {sc : Nat → Nat} {N f n ne : Nat} (hne : ne ≤ 60) (hn : n ≤ 5) (hN : 7 ≤ N) (hf : f + n ≤ 305) (hsc : ∀ k, k < ne → sm k = nI (sc k) ∧ sc k ≤ 5) : ∀ (d k g : Nat), k + d = ne → d < g →
    (∀ m, k ≤ m → m < ne → mt sc ss ss f n m → (∀ j, k ≤ j → j < m → ¬ mt sc ss ss f n j) → jf_Model_entryOf_strokes_b3 N (nI f) (nI n) (nI ne) sm ss g (nI k) = some (nI m)) ∧
    ((∀ j, k ≤ j → j < ne → ¬ mt sc ss ss f n j) → jf_Model_entryOf_strokes_b3 N (nI f) (nI n) (nI ne) sm ss g (nI k) = some (-1)) := by
  intro d
  induction d with
  | zero =>
    intro k g hk hg
    obtain ⟨g, rfl⟩ : ∃ z, g = z + 1 := ⟨g - 1, by omega⟩
    refine ⟨fun m h1 h2 => by omega, fun _ => ?_⟩
    rw [jf_Model_entryOf_strokes_b3, if_pos (p_yle (by omega) (by omega))]
  | succ d ih =>
    intro k g hk hg
    obtain ⟨g, rfl⟩ : ∃ z, g = z + 1 := ⟨g - 1, by omega⟩
    obtain ⟨M, rfl⟩ : ∃ z, N = z + 1 := ⟨N - 1, by omega⟩
    obtain ⟨ih1, ih2⟩ := ih (k + 1) g (by omega) (by omega)
    obtain ⟨hs1, hs2⟩ := hsc k (by omega)
    have e : jf_Model_entryOf_strokes_b3 (M + 1) (nI f) (nI n) (nI ne) sm ss (g + 1) (nI k) = if sc k = n then jf_Model_entryOf_strokes_b33 (nI f) (nI n) ss (jf_Model_entryOf_strokes_b3 (M + 1) (nI f) (nI n) (nI ne) sm ss g) (M + 1) (nI k) 1 0 else jf_Model_entryOf_strokes_b3 (M + 1) (nI f) (nI n) (nI ne) sm ss g (nI (k + 1)) := by
      rw [jf_Model_entryOf_strokes_b3, if_neg (p_nle (by omega) (by omega)), p_ga (by omega) (by omega), p_cl (by omega), hs1]
      by_cases hc : sc k = n
      · rw [if_pos (by rw [hc]), if_pos hc, jf_Model_entryOf_strokes_b28]
      · rw [if_neg (p_ne hc (by omega) (by omega)), if_neg hc, jf_Model_entryOf_strokes_b28, eo_z_strokes]
    have hin := eo_in_strokes (k3 := jf_Model_entryOf_strokes_b3 (M + 1) (nI f) (nI n) (nI ne) sm ss g) (f := f) (n := n) (k := k) (ss := ss) (by omega) hn hf n 0 (M + 1) (by omega) (by omega)
    have hno : ¬ mt sc ss ss f n k → jf_Model_entryOf_strokes_b3 (M + 1) (nI f) (nI n) (nI ne) sm ss (g + 1) (nI k) = jf_Model_entryOf_strokes_b3 (M + 1) (nI f) (nI n) (nI ne) sm ss g (nI (k + 1)) := by
      intro hm
      rw [e]
      by_cases hc : sc k = n
      · rw [if_pos hc]
        refine hin.2 ?_
        refine Classical.byContradiction fun hx => hm ⟨hc, fun i hi => Classical.byContradiction fun h3 => hx ⟨i, Nat.zero_le i, hi, h3⟩⟩
      · rw [if_neg hc]
    refine ⟨fun m h1 h2 h3 h4 => ?_, fun h => ?_⟩
    · by_cases hkm : k = m
      · subst hkm
        rw [e, if_pos h3.1]
        exact hin.1 (fun j _ hj => h3.2 j hj)
      · rw [hno (h4 k (Nat.le_refl k) (by omega))]
        exact ih1 m (by omega) h2 h3 (fun j q1 q2 => h4 j (by omega) q2)
    · rw [hno (h k (Nat.le_refl k) (by omega))]
      exact ih2 (fun j q1 q2 => h j (by omega) q2)
end EOstrokes
