/-! the tape: feed -/
theorem Tape_add_s {x y : Int32} {n t : Nat} {b : Nat → Int32} (hy : ¬ y < 0) (ht : t < 80) : jf_Tape_add_b3 x (n + 1) y (nI t) b = jf_Tape_add_b3 x n (y + (-8)) (nI (t + 1)) (upd b t ((x >>> (y &&& 31)).toInt8.toInt32)) := by
  rw [jf_Tape_add_b3, if_neg hy, if_neg (by rw [p_lit 80, p_le (by omega) (by omega)]; omega), p_ga ht (by omega), jf_Tape_add_b39, p_cl (by omega), pk_vb, nI_1]
def jby4 (b : Nat → Int32) (t : Nat) (x : Int32) : Nat → Int32 := upd (upd (upd (upd b t ((x >>> (24 &&& 31)).toInt8.toInt32)) (t + 1) ((x >>> (16 &&& 31)).toInt8.toInt32)) (t + 2) ((x >>> (8 &&& 31)).toInt8.toInt32)) (t + 3) ((x >>> (0 &&& 31)).toInt8.toInt32)
theorem Tape_add_ok {N t : Nat} {x : Int32} {b : Nat → Int32} (ht : t + 4 ≤ 80) (hN : 5 ≤ N) : jf_Tape_add N x (nI t) b = some (nI (t + 4), jby4 b t x) := by
  obtain ⟨n, rfl⟩ : ∃ n, N = n + 1 + 1 + 1 + 1 + 1 := ⟨N - 5, by omega⟩
  rw [jf_Tape_add, Tape_add_s (by decide) (by omega), show (24 : Int32) + (-8) = 16 from by decide, Tape_add_s (by decide) (by omega), show (16 : Int32) + (-8) = 8 from by decide, Tape_add_s (by decide) (by omega), show (8 : Int32) + (-8) = 0 from by decide, Tape_add_s (by decide) (by omega), jf_Tape_add_b3, if_pos (by decide)]
  rfl
theorem Model_types_s {x y : Int32} {n t : Nat} {b : Nat → Int32} (hy : ¬ y < 0) (ht : t < 80) : jf_Model_types_b2 x (n + 1) y (nI t) b = jf_Model_types_b2 x n (y + (-1)) (nI (t + 1)) (upd b t ((x >>> ((8 * y) &&& 31)).toInt8.toInt32)) := by
  rw [jf_Model_types_b2, if_neg hy, p_ga ht (by omega), p_cl (by omega), pk_vb, nI_1]
theorem Model_types_ok {N t : Nat} {x : Int32} {b : Nat → Int32} (ht : t + 4 ≤ 80) (hN : 5 ≤ N) : jf_Model_types N x (nI t) b = some (nI (t + 4), jby4 b t x) := by
  obtain ⟨n, rfl⟩ : ∃ n, N = n + 1 + 1 + 1 + 1 + 1 := ⟨N - 5, by omega⟩
  rw [jf_Model_types, Model_types_s (by decide) (by omega), show (3 : Int32) + (-1) = 2 from by decide, Model_types_s (by decide) (by omega), show (2 : Int32) + (-1) = 1 from by decide, Model_types_s (by decide) (by omega), show (1 : Int32) + (-1) = 0 from by decide, Model_types_s (by decide) (by omega), jf_Model_types_b2, if_pos (by decide)]
  rfl
/-- the tapes of both sides hold the same t bytes -/
def tpR (t : Nat) (cs : Int32) (cb : Nat → Int32) (ms : Int32) (mb : Nat → Int32) : Prop := t ≤ 80 ∧ cs = nI t ∧ ms = nI t ∧ ∀ i, i < t → mb i = cb i ∧ isB (cb i)
theorem jby4_same {t : Nat} {x : Int32} {cb mb : Nat → Int32} (h : ∀ i, i < t → mb i = cb i ∧ isB (cb i)) : ∀ i, i < t + 4 → jby4 mb t x i = jby4 cb t x i ∧ isB (jby4 cb t x i) := by
  intro i hi
  unfold jby4
  by_cases h3 : i = t + 3
  · subst h3; rw [p_upd_s, p_upd_s]; exact ⟨rfl, isB_of _⟩
  rw [p_upd_n h3, p_upd_n h3]
  by_cases h2 : i = t + 2
  · subst h2; rw [p_upd_s, p_upd_s]; exact ⟨rfl, isB_of _⟩
  rw [p_upd_n h2, p_upd_n h2]
  by_cases h1 : i = t + 1
  · subst h1; rw [p_upd_s, p_upd_s]; exact ⟨rfl, isB_of _⟩
  rw [p_upd_n h1, p_upd_n h1]
  by_cases h0 : i = t
  · subst h0; rw [p_upd_s, p_upd_s]; exact ⟨rfl, isB_of _⟩
  rw [p_upd_n h0, p_upd_n h0]
  exact h i (by omega)
/-- promise 2 on both sides -/
theorem op_feed {N t : Nat} {a b c d e cs ms : Int32} {cb mb : Nat → Int32} (hN : 5 ≤ N) (h : tpR t cs cb ms mb) : ∃ (t' : Nat) (r cs' ms' : Int32) (cb' mb' : Nat → Int32), jf_Room_feed N a b c d e cs cb = some (r, cs', cb') ∧ jf_Model_feed N a b c d e ms mb = some (r, ms', mb') ∧ tpR t' cs' cb' ms' mb' := by
  obtain ⟨ht, rfl, rfl, hb⟩ := h
  by_cases hr : t + 20 ≤ 80
  · refine ⟨t + 4 + 4 + 4 + 4 + 4, nI (t + 4 + 4 + 4 + 4 + 4), _, _, _, _, ?_, ?_, ?_, rfl, rfl, jby4_same (x := e) (jby4_same (x := d) (jby4_same (x := c) (jby4_same (x := b) (jby4_same (x := a) hb))))⟩
    · rw [jf_Room_feed, jf_Tape_hasRoom, if_neg (by rw [p_lit 80, p_lit 20, p_sub ht, p_lt (by omega) (by omega)]; omega)]
      rw [Option.bind_some, if_neg (by decide), Tape_add_ok (by omega) hN, Option.bind_some]
      dsimp only
      rw [Tape_add_ok (by omega) hN, Option.bind_some]
      dsimp only
      rw [Tape_add_ok (by omega) hN, Option.bind_some]
      dsimp only
      rw [Tape_add_ok (by omega) hN, Option.bind_some]
      dsimp only
      rw [Tape_add_ok (by omega) hN, Option.bind_some]
      dsimp only
      rw [jf_Tape_size, Option.bind_some]
    · rw [jf_Model_feed, if_pos (by rw [p_lit 80, p_lit 20, nI_add, p_le (by omega) (by omega)]; omega)]
      rw [Model_types_ok (by omega) hN, Option.bind_some]
      dsimp only
      rw [Model_types_ok (by omega) hN, Option.bind_some]
      dsimp only
      rw [Model_types_ok (by omega) hN, Option.bind_some]
      dsimp only
      rw [Model_types_ok (by omega) hN, Option.bind_some]
      dsimp only
      rw [Model_types_ok (by omega) hN, Option.bind_some]
    · omega
  · refine ⟨t, -1, nI t, nI t, cb, mb, ?_, ?_, ht, rfl, rfl, hb⟩
    · rw [jf_Room_feed, jf_Tape_hasRoom, if_pos (by rw [p_lit 80, p_lit 20, p_sub ht, p_lt (by omega) (by omega)]; omega)]
      rw [Option.bind_some, if_pos rfl]
    · rw [jf_Model_feed, if_neg (by rw [p_lit 80, p_lit 20, nI_add, p_le (by omega) (by omega)]; omega)]
