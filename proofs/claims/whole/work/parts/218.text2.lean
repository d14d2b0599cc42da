/-! words and raw strokes on both sides -/
theorem mWord_ok {N k n ne : Nat} {sh lk z : Int32} {al ax a : Nat → Int32} {l : List Int32} (hN : 20 ≤ N) (hk : k < ne) (hne : ne ≤ 60) (hal : al k = nI n) (hn : n ≤ 16) (hsm : ∀ j, j < n → isSm (ax (16 * k + j))) (ha : ar a l) (hl : l.length + 1 + n ≤ 8000) : (¬ z = 0 → ∃ a', jf_Model_word N (nI k) z al ax (nI l.length) sh lk a = some (nI (blkL l lk ++ wl (fun j => capF sh j (ax (16 * k + j))) n 0).length, 0, 0, a') ∧ ar a' (blkL l lk ++ wl (fun j => capF sh j (ax (16 * k + j))) n 0)) ∧ (z = 0 → ∃ a', jf_Model_word N (nI k) z al ax (nI l.length) sh lk a = some (nI (l ++ wl (fun j => capF sh j (ax (16 * k + j))) n 0).length, 0, 0, a') ∧ ar a' (l ++ wl (fun j => capF sh j (ax (16 * k + j))) n 0)) := by
  refine ⟨fun hz => ?_, fun hz => ?_⟩
  · obtain ⟨a1, h1, h2⟩ := mBlank_ok (lk := lk) (by omega : l.length < 8000) ha
    have hbl := blkL_len l lk
    obtain ⟨a', h3, h4⟩ := mWord_loop (sh := sh) (lk := 0) hk hne hal hn hsm n 0 N (blkL l lk) a1 (by omega) (by omega) h2 (by omega)
    refine ⟨a', ?_, h4⟩
    rw [jf_Model_word, if_neg hz, h1, Option.bind_some]
    exact h3
  · obtain ⟨a', h3, h4⟩ := mWord_loop (sh := sh) (lk := 0) hk hne hal hn hsm n 0 N l a (by omega) (by omega) ha (by omega)
    refine ⟨a', ?_, h4⟩
    rw [jf_Model_word, if_pos hz]
    exact h3
def allB (l : List Int32) : Prop := ∀ x, x ∈ l → x.toInt8.toInt32 = x
theorem msp_B {b : Nat → Bool} {x : Bool} : ∀ (d key : Nat), key + d = 22 → allB (msp b x d key) := by
  intro d
  induction d with
  | zero => intro key _ y hy; rw [msp] at hy; cases hy
  | succ d ih =>
    intro key hk y hy
    rw [msp] at hy
    rcases List.mem_append.mp hy with h | h
    · split at h
      · rw [List.mem_singleton] at h; rw [h]; decide
      · cases h
    · rcases List.mem_append.mp h with h | h
      · split at h
        · rw [List.mem_singleton] at h
          rw [h]
          exact (isB_key key (by omega)).1
        · cases h
      · exact ih (key + 1) (by omega) y h
theorem chd_B (v : Int32) : allB (chd v) := msp_B 22 0 (by omega)
/-- a row of bytes is put behind a text -/
theorem raw_loop {nb : Nat} {ch : List Int32} {ca : Nat → Int32} {lk : Int32} (hb : nb ≤ 10000) (hca : ar ca ch) (hch : ch.length ≤ 22) (hB : allB ch) : ∀ (d i g : Nat) (l : List Int32) (a : Nat → Int32), i + d = ch.length → d < g → ar a l → l.length + d ≤ nb → ∃ a', jf_Page_writeRaw_b6 nb (nI ch.length) ca g (nI i) (nI l.length) lk a = some (nI (l ++ ch.drop i).length, lk, a') ∧ ar a' (l ++ ch.drop i) := by
  intro d
  induction d with
  | zero =>
    intro i g l a hi hg ha hl
    obtain ⟨g, rfl⟩ : ∃ y, g = y + 1 := ⟨g - 1, by omega⟩
    have hdr : ch.drop i = [] := List.drop_eq_nil_of_le (by omega)
    rw [hdr, List.append_nil]
    exact ⟨a, by rw [jf_Page_writeRaw_b6, jf_Chord_size, Option.bind_some, if_pos (p_yle (by omega) (by omega))], ha⟩
  | succ d ih =>
    intro i g l a hi hg ha hl
    obtain ⟨g, rfl⟩ : ∃ y, g = y + 1 := ⟨g - 1, by omega⟩
    have hil : i < ch.length := by omega
    have hv := ar_at hca hil
    have hvB := hB ch[i] (List.getElem_mem hil)
    obtain ⟨a', h1, h2⟩ := ih (i + 1) g (l ++ [ch[i]]) (upd a l.length ch[i]) (by omega) (by omega) (ar_push ha) (by rw [List.length_append, List.length_singleton]; omega)
    have hdr : ch.drop i = ch[i] :: ch.drop (i + 1) := List.drop_eq_getElem_cons hil
    rw [List.append_assoc, List.singleton_append, ← hdr] at h1 h2
    rw [List.length_append (as := l) (bs := [ch[i]]), List.length_singleton] at h1
    refine ⟨a', ?_, h2⟩
    rw [jf_Page_writeRaw_b6, jf_Chord_size, Option.bind_some, if_neg (p_nle (by omega) (by omega)), jf_Chord_byteAt, if_neg (p_n0 (by omega)), if_neg (p_nle (by omega) (by omega)), p_ga (by omega) (by omega), Option.bind_some, p_cl (by omega), hv, Page_put_ok (by omega) hb hvB, Option.bind_some]
    dsimp only
    rw [nI_1]
    exact h1
theorem writeRaw_ok {N nb : Nat} {ch l : List Int32} {ca a : Nat → Int32} {lk : Int32} (hN : 30 ≤ N) (hb : nb ≤ 10000) (hca : ar ca ch) (hch : ch.length ≤ 22) (hB : allB ch) (ha : ar a l) (hl : l.length + 1 + ch.length ≤ nb) : ∃ a', jf_Page_writeRaw N nb (nI ch.length) ca (nI l.length) lk a = some (nI (blkL l lk ++ ch).length, 0, a') ∧ ar a' (blkL l lk ++ ch) := by
  obtain ⟨a1, h1, h2⟩ := putBlank_ok (lk := lk) (by omega : l.length < nb) hb ha
  have hbl := blkL_len l lk
  obtain ⟨a', h3, h4⟩ := raw_loop (lk := 0) hb hca hch hB ch.length 0 N (blkL l lk) a1 (by omega) (by omega) h2 (by omega)
  rw [List.drop_zero] at h3 h4
  refine ⟨a', ?_, h4⟩
  rw [jf_Page_writeRaw, h1, Option.bind_some]
  exact h3
theorem mRaw_loop {ch : List Int32} {ca : Nat → Int32} {lk : Int32} (hca : ar ca ch) (hch : ch.length ≤ 22) (hB : allB ch) : ∀ (d i g : Nat) (l : List Int32) (a : Nat → Int32), i + d = ch.length → d < g → ar a l → l.length + d ≤ 8000 → ∃ a', jf_Model_raw_b11 g (nI i) (nI l.length) lk (nI ch.length) ca a = some (nI (l ++ ch.drop i).length, lk, nI ch.length, ca, a') ∧ ar a' (l ++ ch.drop i) := by
  intro d
  induction d with
  | zero =>
    intro i g l a hi hg ha hl
    obtain ⟨g, rfl⟩ : ∃ y, g = y + 1 := ⟨g - 1, by omega⟩
    have hdr : ch.drop i = [] := List.drop_eq_nil_of_le (by omega)
    rw [hdr, List.append_nil]
    exact ⟨a, by rw [jf_Model_raw_b11, if_pos (p_yle (by omega) (by omega))], ha⟩
  | succ d ih =>
    intro i g l a hi hg ha hl
    obtain ⟨g, rfl⟩ : ∃ y, g = y + 1 := ⟨g - 1, by omega⟩
    have hil : i < ch.length := by omega
    have hv := ar_at hca hil
    have hvB := hB ch[i] (List.getElem_mem hil)
    obtain ⟨a', h1, h2⟩ := ih (i + 1) g (l ++ [ch[i]]) (upd a l.length ch[i]) (by omega) (by omega) (ar_push ha) (by rw [List.length_append, List.length_singleton]; omega)
    have hdr : ch.drop i = ch[i] :: ch.drop (i + 1) := List.drop_eq_getElem_cons hil
    rw [List.append_assoc, List.singleton_append, ← hdr] at h1 h2
    rw [List.length_append (as := l) (bs := [ch[i]]), List.length_singleton] at h1
    refine ⟨a', ?_, h2⟩
    rw [jf_Model_raw_b11, if_neg (p_nle (by omega) (by omega)), p_ga (by omega) (by omega), p_cl (by omega), hv, Model_puts_ok (by omega) hvB, Option.bind_some]
    dsimp only
    rw [nI_1]
    exact h1
theorem mRaw_ok {N : Nat} {v cm lk : Int32} {l : List Int32} {ca a : Nat → Int32} (hN : 30 ≤ N) (hv : isSt v) (ha : ar a l) (hl : l.length + 23 ≤ 8000) : ∃ ca' a', jf_Model_raw N v (nI l.length) lk cm ca a = some (nI (blkL l lk ++ chd v).length, 0, nI (chd v).length, ca', a') ∧ ar a' (blkL l lk ++ chd v) := by
  obtain ⟨ca', c1, c2⟩ := writes_ok (N := N) (z := cm) (a := ca) (by omega) hv
  obtain ⟨-, hlen⟩ := chd_ok hv
  obtain ⟨a1, h1, h2⟩ := mBlank_ok (lk := lk) (by omega : l.length < 8000) ha
  have hbl := blkL_len l lk
  obtain ⟨a', h3, h4⟩ := mRaw_loop (lk := 0) c2 hlen (chd_B v) (chd v).length 0 N (blkL l lk) a1 (by omega) (by omega) h2 (by omega)
  rw [List.drop_zero] at h3 h4
  refine ⟨ca', a', ?_, h4⟩
  rw [jf_Model_raw, c1, Option.bind_some]
  dsimp only
  rw [h1, Option.bind_some]
  exact h3
