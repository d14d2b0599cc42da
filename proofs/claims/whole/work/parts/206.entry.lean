/-! a new entry -/
theorem byte_low (x : Int32) : (x &&& 255).toInt8 = x.toInt8 := by
  apply Int8.toBitVec_inj.1
  apply BitVec.eq_of_getLsbD_eq
  intro i hi
  have h2 : (255 : Int32).toBitVec.getLsbD i = true := by
    have : ∀ j : Fin 8, (255 : Int32).toBitVec.getLsbD j.val = true := by decide +kernel
    exact this ⟨i, hi⟩
  have h4 : (x &&& 255).toBitVec.getLsbD i = x.toBitVec.getLsbD i := by
    show (x.toBitVec &&& (255 : Int32).toBitVec).getLsbD i = _
    rw [BitVec.getLsbD_and, h2, Bool.and_true]
  have h3 : i < 32 := by omega
  first
    | (show (((x &&& 255).toBitVec).signExtend 8).getLsbD i = (x.toBitVec.signExtend 8).getLsbD i; rw [BitVec.getLsbD_signExtend, BitVec.getLsbD_signExtend, if_pos h3, if_pos h3, h4])
    | (show (((x &&& 255).toBitVec).setWidth 8).getLsbD i = (x.toBitVec.setWidth 8).getLsbD i; rw [BitVec.getLsbD_setWidth, BitVec.getLsbD_setWidth, h4])
theorem isB_low {x : Int32} (h : isB x) : (x &&& 255).toInt8.toInt32 = x := by
  rw [byte_low]; exact h
theorem isB_all : ∀ n, n < 256 → ¬ (127 < ((Int8.ofNat n).toInt32 &&& 255)) → ((Int8.ofNat n).toInt32 &&& 255) = (Int8.ofNat n).toInt32 := by decide +kernel
theorem isB_n {x : Int32} (h : isB x) : ∃ n, n < 256 ∧ x = (Int8.ofNat n).toInt32 := by
  refine ⟨x.toInt8.toBitVec.toNat, x.toInt8.toBitVec.isLt, ?_⟩
  have e : Int8.ofNat x.toInt8.toBitVec.toNat = x.toInt8 := by
    apply Int8.toBitVec_inj.1
    simp
  rw [e]
  exact h.symm
theorem isB_small {x : Int32} (h : isB x) (hs : ¬ 127 < (x &&& 255)) : (x &&& 255) = x := by
  obtain ⟨n, hn, rfl⟩ := isB_n h
  exact isB_all n hn hs
/-- may this byte stand in an entry of that kind -/
def bB (k v : Int32) : Bool := if k = 3 ∨ k = 4 then decide (v = 46) || decide (v = 44) || decide (v = 59) || decide (v = 58) || decide (v = 63) || decide (v = 33) else !decide (v < 97) && !decide (122 < v)
theorem takesByte_ok (k v : Int32) : jf_Book_takesByte k v = some (if bB k v = true then 1 else 0) := by
  unfold jf_Book_takesByte jf_Book_takesByte_b15 jf_Room_isSmall bB
  by_cases h3 : k = 3
  · simp only [h3, if_true, true_or]
    by_cases q1 : v = 46 <;> by_cases q2 : v = 44 <;> by_cases q3 : v = 59 <;> by_cases q4 : v = 58 <;> by_cases q5 : v = 63 <;> by_cases q6 : v = 33 <;> simp [q1, q2, q3, q4, q5, q6]
  · by_cases h4 : k = 4
    · simp only [h4, if_true, or_true]
      by_cases q1 : v = 46 <;> by_cases q2 : v = 44 <;> by_cases q3 : v = 59 <;> by_cases q4 : v = 58 <;> by_cases q5 : v = 63 <;> by_cases q6 : v = 33 <;> simp [q1, q2, q3, q4, q5, q6]
    · simp only [h3, h4, if_false, or_self]
      by_cases q1 : v < 97
      · simp [q1, jgb]
      · by_cases q2 : 122 < v
        · simp [q1, q2, jgb]
        · simp [q1, q2, jgb]
theorem isByte_ok (k v : Int32) : jf_Model_isByte k v = some (if bB k v = true then 1 else 0) := by
  rw [← takesByte_ok]
  rfl
theorem bB_small {k v : Int32} (h : bB k v = true) : ¬ 127 < v := by
  unfold bB at h
  split at h
  · simp only [Bool.or_eq_true, decide_eq_true_eq] at h
    rcases h with ((((h | h) | h) | h) | h) | h <;> rw [h] <;> decide
  · simp only [Bool.and_eq_true, Bool.not_eq_true', decide_eq_false_iff_not] at h
    intro q
    exact h.2 (Int32.lt_trans (by decide) q)
/-- how long the text of a kind may be -/
def lnB (c n : Nat) : Prop := if c = 3 ∨ c = 4 then n = 1 else if 6 ≤ c then n = 0 else 1 ≤ n ∧ n ≤ 16
def bkV (ne : Nat) (kd : Nat → Int32) (sc : Nat → Nat) (st : Nat → Int32) (ln : Nat → Nat) (tx : Nat → Int32) : Prop := ne ≤ 60 ∧ (∀ k, k < ne → (∃ c : Nat, c ≤ 8 ∧ kd k = nI c ∧ lnB c (ln k)) ∧ 1 ≤ sc k ∧ sc k ≤ 5 ∧ (∀ i, i < sc k → isSt (st (5 * k + i))) ∧ ∀ i, i < ln k → bB (kd k) (tx (16 * k + i)) = true) ∧ ∀ a b, a < ne → b < ne → sc a = sc b → (∀ i, i < sc a → st (5 * a + i) = st (5 * b + i)) → a = b
theorem lnB_16 {c n : Nat} (h : lnB c n) : n ≤ 16 := by
  unfold lnB at h
  split at h
  · omega
  · split at h
    · omega
    · exact h.2
/-- kind and length together, on both sides -/
theorem takesLength_y {c n : Nat} (hc : c ≤ 8) (h : lnB c n) : jf_Book_takesLength (nI c) (nI n) = some 1 ∧ jf_Model_isSize (nI c) (nI n) = some 1 := by
  have hn := lnB_16 h
  have key : ∀ c, c ≤ 8 → ∀ n, n ≤ 16 → (if c = 3 ∨ c = 4 then n = 1 else if 6 ≤ c then n = 0 else 1 ≤ n ∧ n ≤ 16) → jf_Book_takesLength (nI c) (nI n) = some 1 ∧ jf_Model_isSize (nI c) (nI n) = some 1 := by decide +kernel
  exact key c hc n hn h
theorem takesLength_n (k x : Int32) : (jf_Book_takesLength k x = some 1 ∧ (¬ k < 0 ∧ ¬ 8 < k ∧ jf_Model_isSize k x = some 1) ∧ ∃ c n : Nat, c ≤ 8 ∧ k = nI c ∧ x = nI n ∧ lnB c n) ∨ (jf_Book_takesLength k x = some 0 ∧ (k < 0 ∨ 8 < k ∨ jf_Model_isSize k x = some 0)) := by
  by_cases hk : ∃ c : Nat, c ≤ 8 ∧ k = nI c
  · obtain ⟨c, hc, rfl⟩ := hk
    have h0 : ¬ nI c < 0 := p_n0 (by omega)
    have h8 : ¬ 8 < nI c := by rw [p_lit 8]; exact p_nlt hc (by omega)
    by_cases hx : ∃ n : Nat, n ≤ 16 ∧ x = nI n
    · obtain ⟨n, hn, rfl⟩ := hx
      by_cases h : lnB c n
      · obtain ⟨h1, h2⟩ := takesLength_y hc h
        exact Or.inl ⟨h1, ⟨h0, h8, h2⟩, c, n, hc, rfl, rfl, h⟩
      · have key : ∀ c, c ≤ 8 → ∀ n, n ≤ 16 → ¬ (if c = 3 ∨ c = 4 then n = 1 else if 6 ≤ c then n = 0 else 1 ≤ n ∧ n ≤ 16) → jf_Book_takesLength (nI c) (nI n) = some 0 ∧ jf_Model_isSize (nI c) (nI n) = some 0 := by decide +kernel
        obtain ⟨h1, h2⟩ := key c hc n hn h
        exact Or.inr ⟨h1, Or.inr (Or.inr h2)⟩
    · have hx1 : ¬ x = 1 := fun e => hx ⟨1, by omega, e⟩
      have hx0 : ¬ x = 0 := fun e => hx ⟨0, by omega, e⟩
      have hx2 : x < 1 ∨ 16 < x := by
        by_cases q1 : x < 1
        · exact Or.inl q1
        · refine Or.inr (Classical.byContradiction fun q2 => hx ?_)
          obtain ⟨j, hj, e⟩ := nI_of2 (M := 16) (n := 16) (by decide) (fun q3 : x < 0 => q1 (Int32.lt_trans q3 (by decide))) (Int32.not_lt.mp q2)
          exact ⟨j, hj, e⟩
      have key : ∀ c, c ≤ 8 → jf_Book_takesLength (nI c) x = some 0 ∧ jf_Model_isSize (nI c) x = some 0 := by
        have hh : (if x < 1 then some (0 : Int32) else if 16 < x then some 0 else some 1) = some 0 := by
          rcases hx2 with q | q
          · rw [if_pos q]
          · by_cases q1 : x < 1
            · rw [if_pos q1]
            · rw [if_neg q1, if_pos q]
        have d : ∀ a b : Nat, a < 100 → b < 100 → (nI a = nI b) = (a = b) := fun a b ha hb => p_eq (by omega) (by omega)
        have d6 : ∀ a : Nat, a < 100 → (nI a < nI 6) = (a < 6) := fun a ha => p_lt (by omega) (by omega)
        intro c hc
        unfold jf_Book_takesLength jf_Model_isSize jf_Model_isSize_b10
        rw [if_neg hx1, if_neg hx0, hh]
        rcases (show c = 0 ∨ c = 1 ∨ c = 2 ∨ c = 3 ∨ c = 4 ∨ c = 5 ∨ c = 6 ∨ c = 7 ∨ c = 8 by omega) with rfl | rfl | rfl | rfl | rfl | rfl | rfl | rfl | rfl <;> exact ⟨by simp, by simp⟩
      obtain ⟨h1, h2⟩ := key c hc
      exact Or.inr ⟨h1, Or.inr (Or.inr h2)⟩
  · refine Or.inr ⟨?_, ?_⟩
    · unfold jf_Book_takesLength
      have hne : ∀ c : Nat, c ≤ 8 → ¬ k = nI c := fun c hc e => hk ⟨c, hc, e⟩
      rw [if_neg (show ¬ k = 0 from hne 0 (by omega)), if_neg (show ¬ k = 1 from hne 1 (by omega)), if_neg (show ¬ k = 2 from hne 2 (by omega)), if_neg (show ¬ k = 3 from hne 3 (by omega)), if_neg (show ¬ k = 4 from hne 4 (by omega)), if_neg (show ¬ k = 5 from hne 5 (by omega)), if_neg (show ¬ k = 6 from hne 6 (by omega)), if_neg (show ¬ k = 7 from hne 7 (by omega)), if_neg (show ¬ k = 8 from hne 8 (by omega))]
    · by_cases q0 : k < 0
      · exact Or.inl q0
      · refine Or.inr (Or.inl (Classical.byContradiction fun q8 => hk ?_))
        obtain ⟨j, hj, e⟩ := nI_of2 (M := 8) (n := 8) (by decide) q0 (Int32.not_lt.mp q8)
        exact ⟨j, hj, e⟩
