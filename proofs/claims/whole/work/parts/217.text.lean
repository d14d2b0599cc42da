/-! a text that is written, as a list -/
theorem Page_put_ok {v : Int32} {n nb : Nat} {a : Nat → Int32} (hn : n < nb) (hb : nb ≤ 10000) (hv : v.toInt8.toInt32 = v) : jf_Page_put v nb (nI n) a = some (nI (n + 1), upd a n v) := by
  rw [jf_Page_put, if_neg (p_nle hn (by omega)), p_ga hn (by omega), nI_1, p_cl (by omega), pk_vb, hv]
theorem Model_puts_ok {v : Int32} {n : Nat} {a : Nat → Int32} (hn : n < 8000) (hv : v.toInt8.toInt32 = v) : jf_Model_puts v (nI n) a = some (nI (n + 1), upd a n v) := by
  rw [jf_Model_puts, p_ga hn (by omega), nI_1, p_cl (by omega), pk_vb, hv]
/-- the blank ahead of a word -/
def blkL (l : List Int32) (lk : Int32) : List Int32 := if 0 < l.length ∧ lk = 0 then l ++ [32] else l
theorem blkL_len (l : List Int32) (lk : Int32) : (blkL l lk).length ≤ l.length + 1 := by
  unfold blkL
  split
  · rw [List.length_append, List.length_singleton]; exact Nat.le_refl _
  · omega
theorem putBlank_ok {l : List Int32} {lk : Int32} {nb : Nat} {a : Nat → Int32} (hl : l.length < nb) (hb : nb ≤ 10000) (ha : ar a l) : ∃ a', jf_Page_putBlank nb (nI l.length) lk a = some (nI (blkL l lk).length, 0, a') ∧ ar a' (blkL l lk) := by
  unfold blkL
  rw [jf_Page_putBlank]
  by_cases h0 : 0 < l.length
  · rw [if_neg (show ¬ nI l.length ≤ 0 from p_nle (b := 0) h0 (by omega))]
    by_cases hk : lk = 0
    · rw [if_pos hk, if_pos ⟨h0, hk⟩, Page_put_ok hl hb (by decide), Option.bind_some]
      refine ⟨upd a l.length 32, ?_, ar_push ha⟩
      rw [List.length_append, List.length_singleton]
      rfl
    · rw [if_neg hk, if_neg (fun q => hk q.2)]
      exact ⟨a, rfl, ha⟩
  · rw [if_pos (show nI l.length ≤ 0 from p_yle (b := 0) (by omega) (by omega)), if_neg (fun q => h0 q.1)]
    exact ⟨a, rfl, ha⟩
theorem mBlank_ok {l : List Int32} {lk : Int32} {a : Nat → Int32} (hl : l.length < 8000) (ha : ar a l) : ∃ a', jf_Model_blank (nI l.length) lk a = some (nI (blkL l lk).length, 0, a') ∧ ar a' (blkL l lk) := by
  unfold blkL
  rw [jf_Model_blank]
  by_cases h0 : 0 < l.length
  · rw [if_neg (show ¬ nI l.length ≤ 0 from p_nle (b := 0) h0 (by omega))]
    by_cases hk : lk = 0
    · rw [if_pos hk, if_pos ⟨h0, hk⟩, Model_puts_ok hl (by decide), Option.bind_some]
      refine ⟨upd a l.length 32, ?_, ar_push ha⟩
      rw [List.length_append, List.length_singleton]
      rfl
    · rw [if_neg hk, if_neg (fun q => hk q.2)]
      exact ⟨a, rfl, ha⟩
  · rw [if_pos (show nI l.length ≤ 0 from p_yle (b := 0) (by omega) (by omega)), if_neg (fun q => h0 q.1)]
    exact ⟨a, rfl, ha⟩
/-- the values of g from i on -/
def wl (g : Nat → Int32) : Nat → Nat → List Int32
  | 0, _ => []
  | d + 1, i => g i :: wl g d (i + 1)
theorem wl_len (g : Nat → Int32) : ∀ (d i : Nat), (wl g d i).length = d := by
  intro d
  induction d with
  | zero => intro i; rfl
  | succ d ih => intro i; rw [wl, List.length_cons, ih]
theorem wl_cong {g h : Nat → Int32} : ∀ (d i : Nat), (∀ j, i ≤ j → j < i + d → g j = h j) → wl g d i = wl h d i := by
  intro d
  induction d with
  | zero => intro i _; rfl
  | succ d ih =>
    intro i hj
    rw [wl, wl, hj i (Nat.le_refl i) (by omega), ih (i + 1) (fun j q1 q2 => hj j (by omega) (by omega))]
/-- a letter of a word that is written under this shift -/
def capF (sh : Int32) (i : Nat) (v : Int32) : Int32 := if sh = 2 ∨ (sh = 1 ∧ i = 0) then v - 32 else v
def isSm (v : Int32) : Prop := ¬ v < 97 ∧ ¬ 122 < v
theorem isSm_nI {v : Int32} (h : isSm v) : ∃ m : Nat, 97 ≤ m ∧ m ≤ 122 ∧ v = nI m := by
  obtain ⟨j, hj, e⟩ := nI_of2 (x := v) (M := 122) (n := 122) (by decide) (fun q => h.1 (Int32.lt_trans q (by decide))) (Int32.not_lt.mp h.2)
  refine ⟨j, ?_, hj, e⟩
  rcases Nat.lt_or_ge j 97 with q | q
  · exact absurd (by rw [e]; exact p_ylt (b := 97) q (by omega)) h.1
  · exact q
theorem cap_all : ∀ m, m < 123 → (97 ≤ m → (nI m - 97 + 65 = nI m - 32 ∧ (nI m - 32).toInt8.toInt32 = nI m - 32 ∧ (nI m).toInt8.toInt32 = nI m)) := by decide +kernel
theorem capF_B {sh v : Int32} {i : Nat} (h : isSm v) : (capF sh i v).toInt8.toInt32 = capF sh i v ∧ v - 97 + 65 = v - 32 := by
  obtain ⟨m, h1, h2, rfl⟩ := isSm_nI h
  obtain ⟨c1, c2, c3⟩ := cap_all m (by omega) h1
  unfold capF
  split
  · exact ⟨c2, c1⟩
  · exact ⟨c3, c1⟩
theorem wText_loop {k n ne nb : Nat} {sh lk : Int32} {al ax : Nat → Int32} (hk : k < ne) (hne : ne ≤ 60) (hal : al k = nI n) (hn : n ≤ 16) (hb : nb ≤ 10000) (hsm : ∀ j, j < n → isSm (ax (16 * k + j))) : ∀ (d i g : Nat) (l : List Int32) (a : Nat → Int32), i + d = n → d < g → ar a l → l.length + d ≤ nb → ∃ a', jf_Page_writeText_b6 (nI k) nb (nI ne) al ax g (nI i) (nI l.length) sh lk a = some (nI (l ++ wl (fun j => capF sh j (ax (16 * k + j))) d i).length, 0, lk, a') ∧ ar a' (l ++ wl (fun j => capF sh j (ax (16 * k + j))) d i) := by
  intro d
  induction d with
  | zero =>
    intro i g l a hi hg ha hl
    obtain ⟨g, rfl⟩ : ∃ y, g = y + 1 := ⟨g - 1, by omega⟩
    refine ⟨a, ?_, by rw [wl, List.append_nil]; exact ha⟩
    rw [jf_Page_writeText_b6, Book_lengthOf_in hk hne, hal, Option.bind_some, if_pos (p_yle (by omega) (by omega)), jf_Page_writeText_b88, wl, List.append_nil]
  | succ d ih =>
    intro i g l a hi hg ha hl
    obtain ⟨g, rfl⟩ : ∃ y, g = y + 1 := ⟨g - 1, by omega⟩
    have hs := hsm i (by omega)
    obtain ⟨c1, c2⟩ := capF_B (sh := sh) (i := i) hs
    obtain ⟨a', h1, h2⟩ := ih (i + 1) g (l ++ [capF sh i (ax (16 * k + i))]) (upd a l.length (capF sh i (ax (16 * k + i)))) (by omega) (by omega) (ar_push ha) (by rw [List.length_append, List.length_singleton]; omega)
    rw [List.append_assoc, List.singleton_append] at h1 h2
    rw [List.length_append (as := l) (bs := [capF sh i (ax (16 * k + i))]), List.length_singleton] at h1
    refine ⟨a', ?_, h2⟩
    have hsmall : jf_Room_isSmall (ax (16 * k + i)) = some 1 := by
      rw [jf_Room_isSmall, if_neg hs.1, if_neg hs.2]
    have e79 : ∀ v : Int32, v = capF sh i (ax (16 * k + i)) → jf_Page_writeText_b79 nb (jf_Page_writeText_b6 (nI k) nb (nI ne) al ax g) (nI i) v (nI l.length) sh lk a = some (nI (l ++ wl (fun j => capF sh j (ax (16 * k + j))) (d + 1) i).length, 0, lk, a') := by
      intro v hv
      rw [jf_Page_writeText_b79, hv, Page_put_ok (by omega) hb c1, Option.bind_some]
      dsimp only
      rw [nI_1]
      exact h1
    have e48 : (sh = 2 ∨ (sh = 1 ∧ i = 0)) → jf_Page_writeText_b48 nb (jf_Page_writeText_b6 (nI k) nb (nI ne) al ax g) (nI i) (ax (16 * k + i)) (nI l.length) sh lk a = some (nI (l ++ wl (fun j => capF sh j (ax (16 * k + j))) (d + 1) i).length, 0, lk, a') := by
      intro hc
      rw [jf_Page_writeText_b48, jf_Page_writeText_b53, if_neg (by decide), hsmall, Option.bind_some, if_neg (by decide)]
      exact e79 _ (by rw [c2]; unfold capF; rw [if_pos hc])
    have e52 : ¬ (sh = 2 ∨ (sh = 1 ∧ i = 0)) → jf_Page_writeText_b52 nb (jf_Page_writeText_b6 (nI k) nb (nI ne) al ax g) (nI i) (ax (16 * k + i)) (nI l.length) sh lk a = some (nI (l ++ wl (fun j => capF sh j (ax (16 * k + j))) (d + 1) i).length, 0, lk, a') := by
      intro hc
      rw [jf_Page_writeText_b52, jf_Page_writeText_b53, if_pos rfl, jf_Page_writeText_b78]
      exact e79 _ (by unfold capF; rw [if_neg hc])
    rw [jf_Page_writeText_b6, Book_lengthOf_in hk hne, hal, Option.bind_some, if_neg (p_nle (by omega) (by omega)), Book_letterAt_in hk hne hal (by omega) hn, Option.bind_some]
    by_cases q2 : sh = 2
    · rw [if_pos q2]; exact e48 (Or.inl q2)
    · rw [if_neg q2]
      by_cases q1 : sh = 1
      · rw [if_pos q1]
        by_cases q0 : i = 0
        · rw [if_pos (show nI i = 0 from by rw [q0]; rfl)]; exact e48 (Or.inr ⟨q1, q0⟩)
        · rw [if_neg (show ¬ nI i = 0 from p_ne (b := 0) q0 (by omega) (by omega))]
          exact e52 (fun q => q.elim q2 (fun r => q0 r.2))
      · rw [if_neg q1]
        exact e52 (fun q => q.elim q2 (fun r => q1 r.1))
theorem writeText_ok {N k n ne nb : Nat} {sh lk : Int32} {al ax a : Nat → Int32} {l : List Int32} (hN : 20 ≤ N) (hk : k < ne) (hne : ne ≤ 60) (hal : al k = nI n) (hn : n ≤ 16) (hb : nb ≤ 10000) (hsm : ∀ j, j < n → isSm (ax (16 * k + j))) (ha : ar a l) (hl : l.length + 1 + n ≤ nb) : ∃ a', jf_Page_writeText N (nI k) nb (nI ne) al ax (nI l.length) sh lk a = some (nI (blkL l lk ++ wl (fun j => capF sh j (ax (16 * k + j))) n 0).length, 0, 0, a') ∧ ar a' (blkL l lk ++ wl (fun j => capF sh j (ax (16 * k + j))) n 0) := by
  obtain ⟨a1, h1, h2⟩ := putBlank_ok (lk := lk) (by omega : l.length < nb) hb ha
  have hbl := blkL_len l lk
  obtain ⟨a', h3, h4⟩ := wText_loop (sh := sh) (lk := 0) (nb := nb) hk hne hal hn hb hsm n 0 N (blkL l lk) a1 (by omega) (by omega) h2 (by omega)
  refine ⟨a', ?_, h4⟩
  rw [jf_Page_writeText, h1, Option.bind_some]
  exact h3
theorem mWord_loop {k n ne : Nat} {sh lk : Int32} {al ax : Nat → Int32} (hk : k < ne) (hne : ne ≤ 60) (hal : al k = nI n) (hn : n ≤ 16) (hsm : ∀ j, j < n → isSm (ax (16 * k + j))) : ∀ (d i g : Nat) (l : List Int32) (a : Nat → Int32), i + d = n → d < g → ar a l → l.length + d ≤ 8000 → ∃ a', jf_Model_word_b15 (nI k) al ax g (nI i) (nI l.length) sh lk a = some (nI (l ++ wl (fun j => capF sh j (ax (16 * k + j))) d i).length, 0, lk, a') ∧ ar a' (l ++ wl (fun j => capF sh j (ax (16 * k + j))) d i) := by
  intro d
  induction d with
  | zero =>
    intro i g l a hi hg ha hl
    obtain ⟨g, rfl⟩ : ∃ y, g = y + 1 := ⟨g - 1, by omega⟩
    refine ⟨a, ?_, by rw [wl, List.append_nil]; exact ha⟩
    rw [jf_Model_word_b15, p_ga (by omega) (by omega), p_cl (by omega), hal, if_pos (p_yle (by omega) (by omega)), jf_Model_word_b73, wl, List.append_nil]
  | succ d ih =>
    intro i g l a hi hg ha hl
    obtain ⟨g, rfl⟩ : ∃ y, g = y + 1 := ⟨g - 1, by omega⟩
    have hs := hsm i (by omega)
    obtain ⟨c1, c2⟩ := capF_B (sh := sh) (i := i) hs
    obtain ⟨a', h1, h2⟩ := ih (i + 1) g (l ++ [capF sh i (ax (16 * k + i))]) (upd a l.length (capF sh i (ax (16 * k + i)))) (by omega) (by omega) (ar_push ha) (by rw [List.length_append, List.length_singleton]; omega)
    rw [List.append_assoc, List.singleton_append] at h1 h2
    rw [List.length_append (as := l) (bs := [capF sh i (ax (16 * k + i))]), List.length_singleton] at h1
    refine ⟨a', ?_, h2⟩
    have hlow : (ax (16 * k + i) &&& 255) = ax (16 * k + i) := by
      obtain ⟨m, m1, m2, e⟩ := isSm_nI hs
      rw [e]
      have : ∀ m, m < 123 → (nI m &&& 255) = nI m := by decide +kernel
      exact this m (by omega)
    have e64 : ∀ v : Int32, v = capF sh i (ax (16 * k + i)) → jf_Model_word_b64 (jf_Model_word_b15 (nI k) al ax g) (nI i) v (nI l.length) sh lk a = some (nI (l ++ wl (fun j => capF sh j (ax (16 * k + j))) (d + 1) i).length, 0, lk, a') := by
      intro v hv
      rw [jf_Model_word_b64, hv, Model_puts_ok (by omega) c1, Option.bind_some]
      dsimp only
      rw [nI_1]
      exact h1
    have e54 : (sh = 2 ∨ (sh = 1 ∧ i = 0)) → jf_Model_word_b54 (jf_Model_word_b15 (nI k) al ax g) (nI i) (ax (16 * k + i)) (nI l.length) sh lk a = some (nI (l ++ wl (fun j => capF sh j (ax (16 * k + j))) (d + 1) i).length, 0, lk, a') := by
      intro hc
      rw [jf_Model_word_b54]
      exact e64 _ (by unfold capF; rw [if_pos hc])
    have e62 : ¬ (sh = 2 ∨ (sh = 1 ∧ i = 0)) → jf_Model_word_b62 (jf_Model_word_b15 (nI k) al ax g) (nI i) (ax (16 * k + i)) (nI l.length) sh lk a = some (nI (l ++ wl (fun j => capF sh j (ax (16 * k + j))) (d + 1) i).length, 0, lk, a') := by
      intro hc
      rw [jf_Model_word_b62]
      exact e64 _ (by unfold capF; rw [if_neg hc])
    rw [jf_Model_word_b15, p_ga (by omega) (by omega), p_cl (by omega), hal, if_neg (p_nle (by omega) (by omega)), jf_Model_byteOf, p_lit 16, pk_mul, nI_add, p_ga (by omega) (by omega), Option.bind_some, p_cl (by omega), hlow]
    by_cases q2 : sh = 2
    · rw [if_pos q2]; exact e54 (Or.inl q2)
    · rw [if_neg q2]
      by_cases q1 : sh = 1
      · rw [if_pos q1]
        by_cases q0 : i = 0
        · rw [if_pos (show nI i = 0 from by rw [q0]; rfl)]; exact e54 (Or.inr ⟨q1, q0⟩)
        · rw [if_neg (show ¬ nI i = 0 from p_ne (b := 0) q0 (by omega) (by omega))]
          exact e62 (fun q => q.elim q2 (fun r => q0 r.2))
      · rw [if_neg q1]
        exact e62 (fun q => q.elim q2 (fun r => q1 r.1))
