/-! a new entry: the loops of both sides -/
theorem takes_loop {n : Nat} {tape : Nat → Int32} (hn : n ≤ 80) (hB : ∀ i, i < n → isB (tape i)) : ∀ (d i g : Nat) (tp : Int32) (tk : Nat → Int32), i + d = n → d < g → ∃ tk', jf_Model_takes_b2 (nI n) tape g (nI i) tp tk = some (0, tk') ∧ (∀ j, j < i → tk' j = tk j) ∧ ∀ j, i ≤ j → j < n → tk' j = tape j := by
  intro d
  induction d with
  | zero =>
    intro i g tp tk hi hg
    obtain ⟨g, rfl⟩ : ∃ z, g = z + 1 := ⟨g - 1, by omega⟩
    refine ⟨tk, ?_, fun j hj => rfl, fun j h1 h2 => by omega⟩
    rw [jf_Model_takes_b2, if_pos (p_yle (by omega) (by omega)), jf_Model_takes_b25]
  | succ d ih =>
    intro i g tp tk hi hg
    obtain ⟨g, rfl⟩ : ∃ z, g = z + 1 := ⟨g - 1, by omega⟩
    obtain ⟨tk', h1, h2, h3⟩ := ih (i + 1) g tp (upd tk i (tape i)) (by omega) (by omega)
    refine ⟨tk', ?_, fun j hj => ?_, fun j hj1 hj2 => ?_⟩
    · rw [jf_Model_takes_b2, if_neg (p_nle (by omega) (by omega)), p_ga (by omega) (by omega), p_ga (by omega) (by omega), p_cl (by omega), vp_nar_byte, hB i (by omega), nI_1]
      exact h1
    · rw [h2 j (by omega), p_upd_n (by omega)]
    · by_cases e : j = i
      · subst e; rw [h2 j (by omega), p_upd_s]
      · exact h3 j (by omega) hj2
theorem takes_ok {N n : Nat} {tape tk : Nat → Int32} {tp : Int32} (hN : 81 ≤ N) (hn : n ≤ 80) (hB : ∀ i, i < n → isB (tape i)) : ∃ tk', jf_Model_takes N (nI n) tape tp tk = some (0, tk') ∧ ∀ j, j < n → tk' j = tape j := by
  obtain ⟨tk', h1, -, h3⟩ := takes_loop hn hB n 0 N tp tk (by omega) (by omega)
  exact ⟨tk', h1, fun j hj => h3 j (Nat.zero_le j) hj⟩
theorem tapeByte_in {i t : Nat} {b : Nat → Int32} (hi : i < t) (ht : t ≤ 80) : jf_Tape_byteAt (nI i) (nI t) b = some (b i &&& 255) := by
  rw [jf_Tape_byteAt, if_neg (p_n0 (by omega)), if_neg (p_nle hi (by omega)), p_ga (by omega) (by omega), p_cl (by omega)]
theorem tapeFits_loop {k : Int32} {n t : Nat} {b : Nat → Int32} (hn : n ≤ t) (ht : t ≤ 80) : ∀ (d i g : Nat), i + d = n → d < g →
    ((∀ j, i ≤ j → j < n → bB k (b j &&& 255) = true) → jf_Room_tapeFits_b2 k (nI n) (nI t) b g (nI i) = some 1) ∧
    ((∃ j, i ≤ j ∧ j < n ∧ ¬ bB k (b j &&& 255) = true) → jf_Room_tapeFits_b2 k (nI n) (nI t) b g (nI i) = some 0) := by
  intro d
  induction d with
  | zero =>
    intro i g hi hg
    obtain ⟨g, rfl⟩ : ∃ z, g = z + 1 := ⟨g - 1, by omega⟩
    refine ⟨fun _ => ?_, fun ⟨j, h1, h2, _⟩ => by omega⟩
    rw [jf_Room_tapeFits_b2, if_pos (p_yle (by omega) (by omega))]
  | succ d ih =>
    intro i g hi hg
    obtain ⟨g, rfl⟩ : ∃ z, g = z + 1 := ⟨g - 1, by omega⟩
    obtain ⟨ih1, ih2⟩ := ih (i + 1) g (by omega) (by omega)
    have e : jf_Room_tapeFits_b2 k (nI n) (nI t) b (g + 1) (nI i) = if bB k (b i &&& 255) = true then jf_Room_tapeFits_b2 k (nI n) (nI t) b g (nI (i + 1)) else some 0 := by
      rw [jf_Room_tapeFits_b2, if_neg (p_nle (by omega) (by omega)), tapeByte_in (by omega) ht, Option.bind_some, takesByte_ok, Option.bind_some, nI_1]
      by_cases hb : bB k (b i &&& 255) = true
      · rw [if_pos hb, if_pos hb, if_neg (by decide)]
      · rw [if_neg hb, if_neg hb, if_pos rfl]
    refine ⟨fun h => ?_, fun ⟨j, h1, h2, h3⟩ => ?_⟩
    · rw [e, if_pos (h i (Nat.le_refl i) (by omega))]
      exact ih1 (fun j q1 q2 => h j (by omega) q2)
    · by_cases hb : bB k (b i &&& 255) = true
      · rw [e, if_pos hb]
        refine ih2 ⟨j, ?_, h2, h3⟩
        rcases Nat.lt_or_ge i j with q | q
        · omega
        · have : j = i := by omega
          subst this
          exact absurd hb h3
      · rw [e, if_neg hb]
theorem lays_ok {i ne : Nat} {v : Int32} {sm ss : Nat → Int32} (hi : i < 5) (hne : ne ≤ 60) : jf_Model_lays (nI i) v (nI ne) sm ss = some ((if v = 0 then sm else upd sm ne (nI (i + 1))), upd ss (5 * ne + i) v) := by
  rw [jf_Model_lays, p_lit 5, pk_mul, nI_add, p_ga (by omega) (by omega), p_cl (by omega)]
  by_cases h : v = 0
  · rw [if_pos h, if_pos h]
  · rw [if_neg h, if_neg h, p_ga (by omega) (by omega), nI_1, p_cl (by omega)]
/-- the rows behind the five layings -/
def laySM (sm : Nat → Int32) (ne : Nat) (a b c d e : Int32) : Nat → Int32 :=
  let s0 := if a = 0 then sm else upd sm ne (nI 1)
  let s1 := if b = 0 then s0 else upd s0 ne (nI 2)
  let s2 := if c = 0 then s1 else upd s1 ne (nI 3)
  let s3 := if d = 0 then s2 else upd s2 ne (nI 4)
  if e = 0 then s3 else upd s3 ne (nI 5)
def laySS (ss : Nat → Int32) (ne : Nat) (a b c d e : Int32) : Nat → Int32 := upd (upd (upd (upd (upd ss (5 * ne + 0) a) (5 * ne + 1) b) (5 * ne + 2) c) (5 * ne + 3) d) (5 * ne + 4) e
theorem laySM_o {sm : Nat → Int32} {ne k : Nat} {a b c d e : Int32} (h : k ≠ ne) : laySM sm ne a b c d e k = sm k := by
  unfold laySM
  by_cases q1 : a = 0 <;> by_cases q2 : b = 0 <;> by_cases q3 : c = 0 <;> by_cases q4 : d = 0 <;> by_cases q5 : e = 0 <;> simp [q1, q2, q3, q4, q5, upd, h]
theorem laySS_o {ss : Nat → Int32} {ne j : Nat} {a b c d e : Int32} (h : j < 5 * ne ∨ 5 * ne + 5 ≤ j) : laySS ss ne a b c d e j = ss j := by
  unfold laySS
  rw [p_upd_n (by omega), p_upd_n (by omega), p_upd_n (by omega), p_upd_n (by omega), p_upd_n (by omega)]
theorem laySS_i {ss o0 : Nat → Int32} {ne i : Nat} {a b c d e : Int32} (h : i < 5) : laySS ss ne a b c d e (5 * ne + i) = outF o0 a b c d e i := by
  unfold laySS outF upd
  rcases (show i = 0 ∨ i = 1 ∨ i = 2 ∨ i = 3 ∨ i = 4 by omega) with rfl | rfl | rfl | rfl | rfl <;> simp
theorem stB_ne0 {v : Int32} (h : stB v = true) : ¬ v = 0 := by
  intro e
  rw [e] at h
  exact absurd h (by decide)
theorem laySM_n {sm o0 : Nat → Int32} {ne n : Nat} {a b c d e : Int32} (hn : lo (outF o0 a b c d e) 5 0 0 = n) (h0 : n ≠ 0) : laySM sm ne a b c d e ne = nI n := by
  obtain ⟨h1, -, h3, h4⟩ := lo_spec (o := outF o0 a b c d e) 5 0 0 (Nat.le_refl 0) (by omega) (by omega) (by omega)
  rw [hn] at h1 h3 h4
  have ea : outF o0 a b c d e 0 = a := by simp [outF, upd]
  have eb : outF o0 a b c d e 1 = b := by simp [outF, upd]
  have ec : outF o0 a b c d e 2 = c := by simp [outF, upd]
  have ed : outF o0 a b c d e 3 = d := by simp [outF, upd]
  have ee : outF o0 a b c d e 4 = e := by simp [outF, upd]
  have ya : 0 < n → ¬ a = 0 := fun q => ea ▸ stB_ne0 (h3 0 q)
  have yb : 1 < n → ¬ b = 0 := fun q => eb ▸ stB_ne0 (h3 1 q)
  have yc : 2 < n → ¬ c = 0 := fun q => ec ▸ stB_ne0 (h3 2 q)
  have yd : 3 < n → ¬ d = 0 := fun q => ed ▸ stB_ne0 (h3 3 q)
  have ye : 4 < n → ¬ e = 0 := fun q => ee ▸ stB_ne0 (h3 4 q)
  have nb : n ≤ 1 → b = 0 := fun q => eb ▸ h4 1 q (by omega)
  have nc : n ≤ 2 → c = 0 := fun q => ec ▸ h4 2 q (by omega)
  have nd : n ≤ 3 → d = 0 := fun q => ed ▸ h4 3 q (by omega)
  have nee : n ≤ 4 → e = 0 := fun q => ee ▸ h4 4 q (by omega)
  unfold laySM
  rcases (show n = 1 ∨ n = 2 ∨ n = 3 ∨ n = 4 ∨ n = 5 by omega) with rfl | rfl | rfl | rfl | rfl
  · simp [ya (by omega), nb (by omega), nc (by omega), nd (by omega), nee (by omega), upd]
  · simp [ya (by omega), yb (by omega), nc (by omega), nd (by omega), nee (by omega), upd]
  · simp [ya (by omega), yb (by omega), yc (by omega), nd (by omega), nee (by omega), upd]
  · simp [ya (by omega), yb (by omega), yc (by omega), yd (by omega), nee (by omega), upd]
  · simp [ya (by omega), yb (by omega), yc (by omega), yd (by omega), ye (by omega), upd]
/-- the loops of the class that lay a new entry down -/
theorem addL_loop {x2 x3 : Int32} {n t ne : Nat} {tb : Nat → Int32} (hn : n ≤ t) (ht : t ≤ 80) (hne : ne < 60) (hn16 : n ≤ 16) (hB : ∀ i, i < n → isB (tb i)) : ∀ (d i g : Nat) (ak al atx asc ast : Nat → Int32), i + d = n → d < g → ∃ atx', jf_Book_add_b64 x2 x3 (nI n) (nI t) tb g (nI i) (nI ne) ak al atx asc ast = some (nI (ne + 1), upd ak ne x3, upd al ne (nI n), atx', upd asc ne x2, ast) ∧ (∀ j, i ≤ j → j < n → atx' (16 * ne + j) = tb j) ∧ (∀ m, (m < 16 * ne + i ∨ 16 * ne + n ≤ m) → atx' m = atx m) := by
  intro d
  induction d with
  | zero =>
    intro i g ak al atx asc ast hi hg
    obtain ⟨g, rfl⟩ : ∃ z, g = z + 1 := ⟨g - 1, by omega⟩
    refine ⟨atx, ?_, fun j h1 h2 => by omega, fun m hm => rfl⟩
    rw [jf_Book_add_b64, if_pos (p_yle (by omega) (by omega)), jf_Book_add_b100, p_ga (by omega) (by omega), p_ga (by omega) (by omega), p_ga (by omega) (by omega), nI_1, p_cl (by omega)]
  | succ d ih =>
    intro i g ak al atx asc ast hi hg
    obtain ⟨g, rfl⟩ : ∃ z, g = z + 1 := ⟨g - 1, by omega⟩
    obtain ⟨atx', h1, h2, h3⟩ := ih (i + 1) g ak al (upd atx (16 * ne + i) (tb i)) asc ast (by omega) (by omega)
    refine ⟨atx', ?_, fun j hj1 hj2 => ?_, fun m hm => ?_⟩
    · rw [jf_Book_add_b64, if_neg (p_nle (by omega) (by omega)), tapeByte_in (by omega) ht, Option.bind_some, p_lit 16, pk_mul, nI_add, p_ga (by omega) (by omega), p_cl (by omega), pk_vb, isB_low (hB i (by omega)), nI_1, Nat.mul_comm ne 16]
      exact h1
    · by_cases e : j = i
      · subst e; rw [h3 _ (by omega), p_upd_s]
      · exact h2 j (by omega) hj2
    · rw [h3 m (by omega), p_upd_n (by omega)]
theorem addS_loop {N : Nat} {x3 : Int32} {n l t ne : Nat} {row tb : Nat → Int32} (hN : 17 ≤ N) (hn5 : n ≤ 5) (hl : l ≤ t) (ht : t ≤ 80) (hne : ne < 60) (hl16 : l ≤ 16) (hB : ∀ i, i < l → isB (tb i)) : ∀ (d i g : Nat) (ak al atx asc ast : Nat → Int32), i + d = n → d < g → ∃ atx' ast', jf_Book_add_b31 N (nI n) x3 (nI l) 5 (nI t) row tb g (nI i) (nI ne) ak al atx asc ast = some (nI (ne + 1), upd ak ne x3, upd al ne (nI l), atx', upd asc ne (nI n), ast') ∧ (∀ j, j < l → atx' (16 * ne + j) = tb j) ∧ (∀ m, (m < 16 * ne ∨ 16 * ne + l ≤ m) → atx' m = atx m) ∧ (∀ j, i ≤ j → j < n → ast' (5 * ne + j) = row j) ∧ (∀ m, (m < 5 * ne + i ∨ 5 * ne + n ≤ m) → ast' m = ast m) := by
  intro d
  induction d with
  | zero =>
    intro i g ak al atx asc ast hi hg
    obtain ⟨g, rfl⟩ : ∃ z, g = z + 1 := ⟨g - 1, by omega⟩
    obtain ⟨atx', h1, h2, h3⟩ := addL_loop (x2 := nI n) (x3 := x3) (ne := ne) hl ht hne hl16 hB l 0 N ak al atx asc ast (by omega) (by omega)
    refine ⟨atx', ast, ?_, fun j hj => h2 j (Nat.zero_le j) hj, fun m hm => h3 m (by omega), fun j q1 q2 => by omega, fun m hm => rfl⟩
    rw [jf_Book_add_b31, if_pos (p_yle (by omega) (by omega)), jf_Book_add_b61]
    exact h1
  | succ d ih =>
    intro i g ak al atx asc ast hi hg
    obtain ⟨g, rfl⟩ : ∃ z, g = z + 1 := ⟨g - 1, by omega⟩
    obtain ⟨atx', ast', h1, h2, h3, h4, h5⟩ := ih (i + 1) g ak al atx asc (upd ast (5 * ne + i) (row i)) (by omega) (by omega)
    refine ⟨atx', ast', ?_, h2, h3, fun j hj1 hj2 => ?_, fun m hm => ?_⟩
    · rw [jf_Book_add_b31, if_neg (p_nle (by omega) (by omega)), p_ga (by omega) (by omega), p_lit 5, pk_mul, nI_add, p_ga (by omega) (by omega), p_cl (by omega), p_cl (by omega), nI_1, Nat.mul_comm ne 5]
      exact h1
    · by_cases e : j = i
      · subst e; rw [h5 _ (by omega), p_upd_s]
      · exact h4 j (by omega) hj2
    · rw [h5 m (by omega), p_upd_n (by omega)]
theorem Book_add_ok {N : Nat} {x3 : Int32} {n l t ne : Nat} {row tb ak al atx asc ast : Nat → Int32} (hN : 17 ≤ N) (hn5 : n ≤ 5) (hl : l ≤ t) (ht : t ≤ 80) (hne : ne < 60) (hl16 : l ≤ 16) (hB : ∀ i, i < l → isB (tb i)) : ∃ atx' ast', jf_Book_add N (nI n) x3 (nI l) 5 (nI t) row tb (nI ne) ak al atx asc ast = some (nI (ne + 1), upd ak ne x3, upd al ne (nI l), atx', upd asc ne (nI n), ast') ∧ (∀ j, j < l → atx' (16 * ne + j) = tb j) ∧ (∀ m, (m < 16 * ne ∨ 16 * ne + l ≤ m) → atx' m = atx m) ∧ (∀ j, j < n → ast' (5 * ne + j) = row j) ∧ (∀ m, (m < 5 * ne ∨ 5 * ne + n ≤ m) → ast' m = ast m) := by
  obtain ⟨atx', ast', h1, h2, h3, h4, h5⟩ := addS_loop (x3 := x3) (row := row) hN hn5 hl ht hne hl16 hB n 0 N ak al atx asc ast (by omega) (by omega)
  refine ⟨atx', ast', ?_, h2, h3, fun j hj => h4 j (Nat.zero_le j) hj, fun m hm => h5 m (by omega)⟩
  rw [jf_Book_add, if_neg (by rw [p_lit 60]; exact p_nle (by omega) (by omega)), if_neg (p_nlt (by omega) (by omega)), if_neg (by rw [p_lit 5]; exact p_nlt (by omega) (by omega)), if_pos (by rw [p_lit 16]; exact p_yle (by omega) (by omega))]
  exact h1
/-- and the reference's -/
theorem b186_loop {n ne : Nat} (hne : ne < 60) (hn16 : n ≤ 16) (tk : Nat → Int32) (hB : ∀ i, i < n → isB (tk i)) : ∀ (d i g : Nat) (tp : Int32) (ak asm ass atm atx : Nat → Int32), i + d = n → d < g → ∃ atx', jf_Model_entry_b186 (nI n) g (nI i) tp (nI ne) ak asm ass tk atm atx = some (nI ne, tp, nI (ne + 1), ak, asm, ass, tk, atm, atx') ∧ (∀ j, i ≤ j → j < n → atx' (16 * ne + j) = tk j) ∧ (∀ m, (m < 16 * ne + i ∨ 16 * ne + n ≤ m) → atx' m = atx m) := by
  intro d
  induction d with
  | zero =>
    intro i g tp ak asm ass atm atx hi hg
    obtain ⟨g, rfl⟩ : ∃ z, g = z + 1 := ⟨g - 1, by omega⟩
    refine ⟨atx, ?_, fun j h1 h2 => by omega, fun m hm => rfl⟩
    rw [jf_Model_entry_b186, if_pos (p_yle (by omega) (by omega)), jf_Model_entry_b221, nI_1, p_s1 (by omega), Nat.add_sub_cancel]
  | succ d ih =>
    intro i g tp ak asm ass atm atx hi hg
    obtain ⟨g, rfl⟩ : ∃ z, g = z + 1 := ⟨g - 1, by omega⟩
    obtain ⟨atx', h1, h2, h3⟩ := ih (i + 1) g tp ak asm ass atm (upd atx (16 * ne + i) (tk i)) (by omega) (by omega)
    refine ⟨atx', ?_, fun j hj1 hj2 => ?_, fun m hm => ?_⟩
    · rw [jf_Model_entry_b186, if_neg (p_nle (by omega) (by omega)), p_ga (by omega) (by omega), p_lit 16, pk_mul, nI_add, p_ga (by omega) (by omega), p_cl (by omega), p_cl (by omega), vp_nar_byte, hB i (by omega), nI_1]
      exact h1
    · by_cases e : j = i
      · subst e; rw [h3 _ (by omega), p_upd_s]
      · exact h2 j (by omega) hj2
    · rw [h3 m (by omega), p_upd_n (by omega)]
theorem b55_loop {N : Nat} {a b c d0 e k : Int32} {n : Nat} (hn : n ≤ 80) {tp en : Int32} {ak asm ass tk atm atx : Nat → Int32} : ∀ (d i g : Nat), i + d = n → d < g →
    ((∀ j, i ≤ j → j < n → bB k (tk j &&& 255) = true) → jf_Model_entry_b55 N a b c d0 e k (nI n) g (nI i) tp en ak asm ass tk atm atx = jf_Model_entry_b89 N a b c d0 e k (nI n) tp en ak asm ass tk atm atx) ∧
    ((∃ j, i ≤ j ∧ j < n ∧ ¬ bB k (tk j &&& 255) = true) → jf_Model_entry_b55 N a b c d0 e k (nI n) g (nI i) tp en ak asm ass tk atm atx = some (-1, tp, en, ak, asm, ass, tk, atm, atx)) := by
  intro d
  induction d with
  | zero =>
    intro i g hi hg
    obtain ⟨g, rfl⟩ : ∃ z, g = z + 1 := ⟨g - 1, by omega⟩
    refine ⟨fun _ => ?_, fun ⟨j, h1, h2, _⟩ => by omega⟩
    rw [jf_Model_entry_b55, if_pos (p_yle (by omega) (by omega))]
  | succ d ih =>
    intro i g hi hg
    obtain ⟨g, rfl⟩ : ∃ z, g = z + 1 := ⟨g - 1, by omega⟩
    obtain ⟨ih1, ih2⟩ := ih (i + 1) g (by omega) (by omega)
    have e : jf_Model_entry_b55 N a b c d0 e k (nI n) (g + 1) (nI i) tp en ak asm ass tk atm atx = if bB k (tk i &&& 255) = true then jf_Model_entry_b55 N a b c d0 e k (nI n) g (nI (i + 1)) tp en ak asm ass tk atm atx else some (-1, tp, en, ak, asm, ass, tk, atm, atx) := by
      rw [jf_Model_entry_b55, if_neg (p_nle (by omega) (by omega)), p_ga (by omega) (by omega), p_cl (by omega), isByte_ok, Option.bind_some, nI_1]
      by_cases hb : bB k (tk i &&& 255) = true
      · rw [if_pos hb, if_pos hb, if_neg (by decide)]
      · rw [if_neg hb, if_neg hb, if_pos rfl]
    refine ⟨fun h => ?_, fun ⟨j, h1, h2, h3⟩ => ?_⟩
    · rw [e, if_pos (h i (Nat.le_refl i) (by omega))]
      exact ih1 (fun j q1 q2 => h j (by omega) q2)
    · by_cases hb : bB k (tk i &&& 255) = true
      · rw [e, if_pos hb]
        refine ih2 ⟨j, ?_, h2, h3⟩
        rcases Nat.lt_or_ge i j with q | q
        · omega
        · have : j = i := by omega
          subst this
          exact absurd hb h3
      · rw [e, if_neg hb]
