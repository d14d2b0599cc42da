/-! the letters at the end of a text -/
def vwB (v : Int32) : Bool := decide (v = 97) || decide (v = 101) || decide (v = 105) || decide (v = 111) || decide (v = 117)
theorem cVw (v : Int32) : jf_Room_isVowel v = some (if vwB v = true then 1 else 0) := by
  unfold jf_Room_isVowel vwB
  by_cases q1 : v = 97 <;> by_cases q2 : v = 101 <;> by_cases q3 : v = 105 <;> by_cases q4 : v = 111 <;> by_cases q5 : v = 117 <;> simp [q1, q2, q3, q4, q5]
theorem mVw (v : Int32) : jf_Model_isVowel v = some (if vwB v = true then 1 else 0) := by
  unfold jf_Model_isVowel vwB
  by_cases q1 : v = 97 <;> by_cases q2 : v = 101 <;> by_cases q3 : v = 105 <;> by_cases q4 : v = 111 <;> by_cases q5 : v = 117 <;> simp [q1, q2, q3, q4, q5]
def ltB (v : Int32) : Bool := (!decide (v < 97) && !decide (122 < v)) || (!decide (v < 65) && !decide (90 < v))
def smF (v : Int32) : Int32 := if v < 65 then v else if 90 < v then v else v + 32
/-- what both sides say of a byte below 128 -/
theorem chr_all : ∀ m, m < 128 → jf_Room_isLetter (nI m) = some (if ltB (nI m) = true then 1 else 0) ∧ jf_Model_isLetter (nI m) = some (if ltB (nI m) = true then 1 else 0) ∧ jf_Room_smallOf (nI m) = some (smF (nI m)) ∧ jf_Model_small (nI m) = some (smF (nI m)) ∧ (nI m &&& 255) = nI m ∧ (nI m).toInt8.toInt32 = nI m ∧ (smF (nI m)).toInt8.toInt32 = smF (nI m) := by decide +kernel
/-- every byte of the text is below 128 -/
def txt7 (l : List Int32) : Prop := ∀ x, x ∈ l → ∃ m, m < 128 ∧ x = nI m
/-- the i-th byte from the end -/
def fe (l : List Int32) (i : Nat) : Int32 := l.getD (l.length - 1 - i) 0
theorem fe_ar {l : List Int32} {a : Nat → Int32} {i : Nat} (ha : ar a l) (hi : i < l.length) : a (l.length - 1 - i) = fe l i := by
  unfold fe
  rw [List.getD_eq_getElem?_getD, List.getElem?_eq_getElem (by omega), Option.getD_some]
  exact ar_at ha (by omega)
theorem fe_7 {l : List Int32} {i : Nat} (h : txt7 l) (hi : i < l.length) : ∃ m, m < 128 ∧ fe l i = nI m := by
  unfold fe
  rw [List.getD_eq_getElem?_getD, List.getElem?_eq_getElem (by omega), Option.getD_some]
  exact h _ (List.getElem_mem _)
/-- the last word has n letters -/
def tw (l : List Int32) (n : Nat) : Prop := n ≤ l.length ∧ (∀ i, i < n → ltB (fe l i) = true) ∧ (n < l.length → ¬ ltB (fe l n) = true)
theorem tw_ex (l : List Int32) : ∃ n, tw l n := by
  have key : ∀ (d c : Nat), c + d = l.length → (∀ i, i < c → ltB (fe l i) = true) → ∃ n, tw l n := by
    intro d
    induction d with
    | zero => intro c hc h; exact ⟨c, by omega, h, fun q => by omega⟩
    | succ d ih =>
      intro c hc h
      by_cases hl : ltB (fe l c) = true
      · exact ih (c + 1) (by omega) (fun i hi => by
          by_cases e : i = c
          · rw [e]; exact hl
          · exact h i (by omega))
      · exact ⟨c, by omega, h, fun _ => hl⟩
  exact key l.length 0 (by omega) (fun i hi => by omega)
/-- the vowels among the first c letters from the end -/
def cv (l : List Int32) : Nat → Nat
  | 0 => 0
  | c + 1 => cv l c + (if vwB (smF (fe l c)) = true then 1 else 0)
theorem cv_le (l : List Int32) : ∀ c, cv l c ≤ c := by
  intro c
  induction c with
  | zero => exact Nat.le_refl 0
  | succ c ih => rw [cv]; split <;> omega
/-- the reference counts all letters -/
theorem mLast_loop {N k : Nat} {al ax a : Nat → Int32} {l : List Int32} {sh lk : Int32} {n : Nat} (ha : ar a l) (h7 : txt7 l) (hl : l.length ≤ 7999) (ht : tw l n) : ∀ (d c g : Nat), c + d = n → d < g → jf_Model_suffix_b5 N (nI k) al ax g (nI l.length) sh lk (nI c) a = jf_Model_suffix_b55 N (nI k) al ax (nI l.length) sh lk (nI n) a := by
  intro d
  induction d with
  | zero =>
    intro c g hc hg
    obtain ⟨g, rfl⟩ : ∃ y, g = y + 1 := ⟨g - 1, by omega⟩
    have hcn : c = n := by omega
    rw [hcn, jf_Model_suffix_b5]
    by_cases hn : l.length ≤ n
    · rw [if_pos (p_yle hn (by have := ht.1; omega))]
    · obtain ⟨m, hm, e⟩ := fe_7 h7 (by omega : n < l.length)
      obtain ⟨-, c2, -, -, c5, -, -⟩ := chr_all m hm
      have hno := ht.2.2 (by omega)
      have c2' : jf_Model_isLetter (nI m) = some 0 := by rw [c2, if_neg (by rw [← e]; exact hno)]
      rw [if_neg (p_nle (by omega) (by omega)), p_s1 (by omega), p_sub (by omega), p_ga (by omega) (by omega), p_cl (by omega), fe_ar ha (by omega), e, c5, c2', Option.bind_some, if_pos rfl]
  | succ d ih =>
    intro c g hc hg
    obtain ⟨g, rfl⟩ : ∃ y, g = y + 1 := ⟨g - 1, by omega⟩
    have hn := ht.1
    obtain ⟨m, hm, e⟩ := fe_7 h7 (by omega : c < l.length)
    obtain ⟨-, c2, -, -, c5, -, -⟩ := chr_all m hm
    have hy := ht.2.1 c (by omega)
    have c2' : jf_Model_isLetter (nI m) = some 1 := by rw [c2, if_pos (by rw [← e]; exact hy)]
    rw [jf_Model_suffix_b5, if_neg (p_nle (by omega) (by omega)), p_s1 (by omega), p_sub (by omega), p_ga (by omega) (by omega), p_cl (by omega), fe_ar ha (by omega), e, c5, c2', Option.bind_some, if_neg (by decide), nI_1]
    exact ih (c + 1) g (by omega) (by omega)
theorem mLast_at {l : List Int32} {a : Nat → Int32} {n i : Nat} (ha : ar a l) (h7 : txt7 l) (hl : l.length ≤ 7999) (hn : n ≤ l.length) : jf_Model_last (nI i) (nI l.length) (nI n) a = some (if i < n then smF (fe l i) else 0) ∨ 2147483648 ≤ i := by
  rcases Nat.lt_or_ge i 2147483648 with q | q
  · left
    rw [jf_Model_last]
    by_cases hi : i < n
    · obtain ⟨m, hm, e⟩ := fe_7 h7 (by omega : i < l.length)
      obtain ⟨-, -, -, c4, c5, -, -⟩ := chr_all m hm
      rw [if_neg (p_nle hi (by omega)), if_pos hi, p_s1 (by omega), p_sub (by omega), p_ga (by omega) (by omega), p_cl (by omega), fe_ar ha (by omega), e, c5, c4, Option.bind_some]
    · rw [if_pos (p_yle (by omega) q), if_neg hi]
  · exact Or.inr q
/-- the class counts as far as a rule may ask -/
theorem cLast_loop {nb : Nat} {asked : Nat} {a : Nat → Int32} {l : List Int32} {n : Nat} (ha : ar a l) (h7 : txt7 l) (hl : l.length ≤ nb) (hb : nb ≤ 10000) (hk : asked ≤ 2) (ht : tw l n) : ∀ (d c g : Nat), c + d = n → d < g → ∃ L, jf_Page_measureLastWord_b27 nb a g (nI asked) (nI (l.length - c) + (-1)) (nI c) (nI (cv l c)) = some (nI L, nI (cv l L)) ∧ L ≤ n ∧ (L = n ∨ (3 ≤ L ∧ asked ≤ cv l L)) := by
  intro d
  induction d with
  | zero =>
    intro c g hc hg
    obtain ⟨g, rfl⟩ : ∃ y, g = y + 1 := ⟨g - 1, by omega⟩
    have hcn : c = n := by omega
    have hn := ht.1
    refine ⟨n, ?_, Nat.le_refl n, Or.inl rfl⟩
    rw [hcn, jf_Page_measureLastWord_b27]
    by_cases hln : l.length ≤ n
    · rw [if_pos (by rw [show l.length - n = 0 by omega]; decide)]
    · obtain ⟨m, hm, e⟩ := fe_7 h7 (by omega : n < l.length)
      obtain ⟨c1, -, -, -, -, -, -⟩ := chr_all m hm
      have hno := ht.2.2 (by omega)
      have c1' : jf_Room_isLetter (nI m) = some 0 := by rw [c1, if_neg (by rw [← e]; exact hno)]
      rw [p_d1 (by omega), if_neg (p_n0 (by omega)), p_ga (by omega) (by omega), p_cl (by omega), show l.length - n - 1 = l.length - 1 - n by omega, fe_ar ha (by omega), e, c1', Option.bind_some, if_pos rfl]
  | succ d ih =>
    intro c g hc hg
    obtain ⟨g, rfl⟩ : ∃ y, g = y + 1 := ⟨g - 1, by omega⟩
    have hn := ht.1
    have hcv := cv_le l c
    obtain ⟨m, hm, e⟩ := fe_7 h7 (by omega : c < l.length)
    obtain ⟨c1, -, c3, -, -, -, -⟩ := chr_all m hm
    have hy := ht.2.1 c (by omega)
    have c1' : jf_Room_isLetter (nI m) = some 1 := by rw [c1, if_pos (by rw [← e]; exact hy)]
    obtain ⟨L, i1, i2, i3⟩ := ih (c + 1) g (by omega) (by omega)
    have e60 : jf_Page_measureLastWord_b60 nb a (jf_Page_measureLastWord_b27 nb a g) (nI asked) (nI (l.length - c - 1)) (nI c) (nI (cv l c)) = some (nI L, nI (cv l L)) := by
      rw [jf_Page_measureLastWord_b60, p_ga (by omega) (by omega), p_cl (by omega), show l.length - c - 1 = l.length - 1 - c by omega, fe_ar ha (by omega), e, c3, Option.bind_some, cVw, Option.bind_some, ← e]
      rw [cv] at i1
      rw [show l.length - (c + 1) = l.length - 1 - c by omega] at i1
      by_cases hv : vwB (smF (fe l c)) = true
      · rw [if_pos hv, if_neg (by decide), jf_Page_measureLastWord_b95, nI_1, nI_1]
        rw [if_pos hv] at i1
        exact i1
      · rw [if_neg hv, if_pos rfl, jf_Page_measureLastWord_b95, nI_1]
        rw [if_neg hv] at i1
        exact i1
    have hhead : jf_Page_measureLastWord_b27 nb a (g + 1) (nI asked) (nI (l.length - c) + (-1)) (nI c) (nI (cv l c)) = if c < 3 then jf_Page_measureLastWord_b60 nb a (jf_Page_measureLastWord_b27 nb a g) (nI asked) (nI (l.length - c - 1)) (nI c) (nI (cv l c)) else if cv l c < asked then jf_Page_measureLastWord_b60 nb a (jf_Page_measureLastWord_b27 nb a g) (nI asked) (nI (l.length - c - 1)) (nI c) (nI (cv l c)) else some (nI c, nI (cv l c)) := by
      rw [p_d1 (by omega), jf_Page_measureLastWord_b27, if_neg (p_n0 (by omega)), p_ga (by omega) (by omega), p_cl (by omega), show a (l.length - c - 1) = nI m from by rw [show l.length - c - 1 = l.length - 1 - c by omega, fe_ar ha (by omega), e], c1', Option.bind_some, if_neg (by decide)]
      by_cases h3 : c < 3
      · rw [if_pos (show nI c < 3 from p_ylt (b := 3) h3 (by omega)), if_pos h3]
      · rw [if_neg (show ¬ nI c < 3 from p_nlt (b := 3) (by omega) (by omega)), if_neg h3]
        by_cases h4 : cv l c < asked
        · rw [if_pos (p_ylt h4 (by omega)), if_pos h4]
        · rw [if_neg (p_nlt (by omega) (by omega)), if_neg h4]
    rw [hhead]
    by_cases h3 : c < 3
    · rw [if_pos h3]
      exact ⟨L, e60, i2, i3⟩
    · rw [if_neg h3]
      by_cases h4 : cv l c < asked
      · rw [if_pos h4]
        exact ⟨L, e60, i2, i3⟩
      · rw [if_neg h4]
        exact ⟨c, rfl, by omega, Or.inr ⟨by omega, by omega⟩⟩
