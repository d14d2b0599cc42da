/-! what is asked of the transcript -/
section AS
variable {N ne : Nat} {kd : Nat → Int32} {sc : Nat → Nat} {st : Nat → Int32} {ln : Nat → Nat} {tx row : Nat → Int32}
/-- the translations of entry x -/
def cnt (x : Int32) : List (Nat × Option Nat) → Nat
  | [] => 0
  | (_, e) :: rest => cnt x rest + (if oI e = x then 1 else 0)
theorem cnt_len (x : Int32) : ∀ l : List (Nat × Option Nat), cnt x l ≤ l.length := by
  intro l
  induction l with
  | nil => exact Nat.le_refl 0
  | cons q l ih =>
    obtain ⟨f, e⟩ := q
    rw [cnt, List.length_cons]
    split <;> omega
theorem cnt_rws (hne : ne ≤ 60) : ∀ n : Nat, cnt (-1) (RD ne sc st row n) = rws (RD ne sc st row n) := by
  intro n
  induction n using Nat.strongRecOn with
  | _ n ih =>
    rcases Nat.eq_zero_or_pos n with h0 | h0
    · subst h0
      rw [RD]
      rfl
    · obtain ⟨f, e, hf, hR⟩ := RD_top (ne := ne) (sc := sc) (st := st) (row := row) h0
      rw [hR, cnt, ih f hf]
      cases e with
      | none => rw [rws, if_pos (show oI none = -1 from rfl)]
      | some k =>
        obtain ⟨m, rfl⟩ : ∃ m, n = m + 1 := ⟨n - 1, by omega⟩
        have hk := RD_ent hR
        rw [rws, if_neg (show ¬ oI (some k) = -1 from fun q => cast (p_m1 (n := k) (by omega)) q)]
        omega
theorem cnt_next {x : Int32} {c m : Nat} {e : Option Nat} (hR : RD ne sc st row m = (c, e) :: RD ne sc st row c) : cnt x (RD ne sc st row m) = cnt x (RD ne sc st row c) + (if oI e = x then 1 else 0) := by rw [hR, cnt]
theorem fst_at {n m : Nat} {fa ea : Nat → Int32} (hs : stk fa ea (RD ne sc st row n)) (hl : fa (RD ne sc st row n).length = nI n) (hm : m ∈ sts ne sc st row n) : fa (RD ne sc st row m).length = nI m := by
  by_cases q : m = n
  · rw [q]; exact hl
  · obtain ⟨m', e, h1, h2, h3, h4⟩ := sts_next n m hm q
    exact (stk_at hs h1 h2).1
/-- the reference counts raw ones -/
theorem mRaws_loop {n : Nat} {le sh lk cm lm : Int32} {ch ea fa la lb a : Nat → Int32} (hn : n ≤ 300) (hs : stk fa ea (RD ne sc st row n)) : ∀ (d c g : Nat), c ∈ sts ne sc st row n → (RD ne sc st row c).length + d = (RD ne sc st row n).length → d < g → jf_Model_count_b72 g (nI (cnt (-1) (RD ne sc st row c))) (nI (RD ne sc st row c).length) (nI (RD ne sc st row n).length) le sh lk cm lm ch ea fa la lb a = some (nI (cnt (-1) (RD ne sc st row n)), nI (RD ne sc st row n).length, le, sh, lk, cm, lm, ch, ea, fa, la, lb, a) := by
  have hT := RD_len (ne := ne) (sc := sc) (st := st) (row := row) n
  intro d
  induction d with
  | zero =>
    intro c g hc hd hg
    obtain ⟨g, rfl⟩ : ∃ y, g = y + 1 := ⟨g - 1, by omega⟩
    have hcn : c = n := by
      by_cases q : c = n
      · exact q
      · have := (sts_len hc).2 q
        omega
    subst hcn
    rw [jf_Model_count_b72, if_pos (p_yle (Nat.le_refl _) (by omega))]
  | succ d ih =>
    intro c g hc hd hg
    obtain ⟨g, rfl⟩ : ∃ y, g = y + 1 := ⟨g - 1, by omega⟩
    have hcn : c ≠ n := by
      intro q
      subst q
      omega
    obtain ⟨m, e, hm, hR, hcm, hmn⟩ := sts_next n c hc hcn
    have hml : (RD ne sc st row m).length = (RD ne sc st row c).length + 1 := by rw [hR, List.length_cons]
    have hI := ih m g hm (by omega) (by omega)
    rw [cnt_next hR, hml] at hI
    rw [jf_Model_count_b72, if_neg (p_nle (by omega) (by omega)), p_ga (by omega) (by omega), p_cl (by omega), (stk_at hs hm hR).2]
    by_cases he : oI e = -1
    · rw [if_pos he] at hI ⊢
      rw [jf_Model_count_b96, nI_1, nI_1]
      exact hI
    · rw [if_neg he] at hI ⊢
      rw [jf_Model_count_b96, nI_1, show (0 : Int32) = nI 0 from rfl, nI_add]
      exact hI
theorem mCount_loop {n : Nat} {x le sh lk cm lm : Int32} {ch ea fa la lb a : Nat → Int32} (hn : n ≤ 300) (hs : stk fa ea (RD ne sc st row n)) : ∀ (d c g : Nat), c ∈ sts ne sc st row n → (RD ne sc st row c).length + d = (RD ne sc st row n).length → d < g → jf_Model_book_b63 x g (nI (cnt x (RD ne sc st row c))) (nI (RD ne sc st row c).length) (nI (RD ne sc st row n).length) le sh lk cm lm ch ea fa la lb a = some (nI (cnt x (RD ne sc st row n)), nI (RD ne sc st row n).length, le, sh, lk, cm, lm, ch, ea, fa, la, lb, a) := by
  have hT := RD_len (ne := ne) (sc := sc) (st := st) (row := row) n
  intro d
  induction d with
  | zero =>
    intro c g hc hd hg
    obtain ⟨g, rfl⟩ : ∃ y, g = y + 1 := ⟨g - 1, by omega⟩
    have hcn : c = n := by
      by_cases q : c = n
      · exact q
      · have := (sts_len hc).2 q
        omega
    subst hcn
    rw [jf_Model_book_b63, if_pos (p_yle (Nat.le_refl _) (by omega))]
  | succ d ih =>
    intro c g hc hd hg
    obtain ⟨g, rfl⟩ : ∃ y, g = y + 1 := ⟨g - 1, by omega⟩
    have hcn : c ≠ n := by
      intro q
      subst q
      omega
    obtain ⟨m, e, hm, hR, hcm, hmn⟩ := sts_next n c hc hcn
    have hml : (RD ne sc st row m).length = (RD ne sc st row c).length + 1 := by rw [hR, List.length_cons]
    have hI := ih m g hm (by omega) (by omega)
    rw [cnt_next hR, hml] at hI
    rw [jf_Model_book_b63, if_neg (p_nle (by omega) (by omega)), p_ga (by omega) (by omega), p_cl (by omega), (stk_at hs hm hR).2]
    by_cases he : oI e = x
    · rw [if_pos he] at hI ⊢
      rw [jf_Model_book_b89, nI_1, nI_1]
      exact hI
    · rw [if_neg he] at hI ⊢
      rw [jf_Model_book_b89, nI_1, show (0 : Int32) = nI 0 from rfl, nI_add]
      exact hI
theorem cCount_loop {n : Nat} {x : Int32} {la fa ea : Nat → Int32} (hn : n ≤ 300) (hla : tlk ne sc st row la n) (hI : rdI ne sc st row n fa ea) : ∀ (d c g : Nat), c ∈ sts ne sc st row n → (RD ne sc st row c).length + d = (RD ne sc st row n).length → d < g → jf_Transcript_countOf_b4 x (nI (RD ne sc st row n).length) (nI n) la ea g (nI (cnt x (RD ne sc st row c))) (nI (RD ne sc st row c).length) = some (nI (cnt x (RD ne sc st row n))) := by
  have hT := RD_len (ne := ne) (sc := sc) (st := st) (row := row) n
  intro d
  induction d with
  | zero =>
    intro c g hc hd hg
    obtain ⟨g, rfl⟩ : ∃ y, g = y + 1 := ⟨g - 1, by omega⟩
    have hcn : c = n := by
      by_cases q : c = n
      · exact q
      · have := (sts_len hc).2 q
        omega
    subst hcn
    rw [jf_Transcript_countOf_b4, if_pos (p_yle (Nat.le_refl _) (by omega))]
  | succ d ih =>
    intro c g hc hd hg
    obtain ⟨g, rfl⟩ : ∃ y, g = y + 1 := ⟨g - 1, by omega⟩
    have hcn : c ≠ n := by
      intro q
      subst q
      omega
    obtain ⟨m, e, hm, hR, hcm, hmn⟩ := sts_next n c hc hcn
    have hml : (RD ne sc st row m).length = (RD ne sc st row c).length + 1 := by rw [hR, List.length_cons]
    have hI' := ih m g hm (by omega) (by omega)
    rw [cnt_next hR, hml] at hI'
    rw [jf_Transcript_countOf_b4, if_neg (p_nle (by omega) (by omega)), p_ga (by omega) (by omega), p_cl (by omega), hla m c e hm hR, jf_Reading_entryAt, if_neg (p_n0 (by omega)), if_neg (p_nle (by omega) (by omega)), p_ga (by omega) (by omega), p_cl (by omega), (rdI_at hI hmn (by omega) hR).2, Option.bind_some]
    by_cases he : oI e = x
    · rw [if_pos he] at hI' ⊢
      rw [jf_Transcript_countOf_b32, nI_1, nI_1]
      exact hI'
    · rw [if_neg he] at hI' ⊢
      rw [jf_Transcript_countOf_b32, nI_1]
      exact hI'
/-- the reference looks for the translation of stroke i -/
theorem mOf_loop {n i : Nat} {tr le sh lk cm lm : Int32} {ch ea fa la lb a : Nat → Int32} (hn : n ≤ 300) (hi : i < n) (hs : stk fa ea (RD ne sc st row n)) (hl : fa (RD ne sc st row n).length = nI n) : ∀ (d c g : Nat), c ∈ sts ne sc st row n → c ≤ i → n ≤ c + d → d < g → ∃ c' m' e', m' ∈ sts ne sc st row n ∧ RD ne sc st row m' = (c', e') :: RD ne sc st row c' ∧ c' ≤ i ∧ i < m' ∧ jf_Model_of_b20 (nI i) g (nI (RD ne sc st row c).length) tr le sh lk cm lm ch ea fa la lb a = some (nI (RD ne sc st row c').length, tr, le, sh, lk, cm, lm, ch, ea, fa, la, lb, a) := by
  have hT := RD_len (ne := ne) (sc := sc) (st := st) (row := row) n
  intro d
  induction d with
  | zero => intro c g hc hci hd hg; omega
  | succ d ih =>
    intro c g hc hci hd hg
    obtain ⟨g, rfl⟩ : ∃ y, g = y + 1 := ⟨g - 1, by omega⟩
    obtain ⟨m, e, hm, hR, hcm, hmn⟩ := sts_next n c hc (by omega)
    have hml : (RD ne sc st row m).length = (RD ne sc st row c).length + 1 := by rw [hR, List.length_cons]
    have hmT := (sts_len hm).1
    have hf := fst_at hs hl hm
    rw [hml] at hf
    by_cases him : i < m
    · refine ⟨c, m, e, hm, hR, hci, him, ?_⟩
      rw [jf_Model_of_b20, nI_1, p_ga (by omega) (by omega), p_cl (by omega), hf, if_pos (p_ylt him (by omega))]
    · obtain ⟨c', m', e', h1, h2, h3, h4, h5⟩ := ih m g hm (by omega) (by omega) (by omega)
      refine ⟨c', m', e', h1, h2, h3, h4, ?_⟩
      rw [jf_Model_of_b20, nI_1, p_ga (by omega) (by omega), p_cl (by omega), hf, if_neg (p_nlt (by omega) (by omega)), ← hml]
      exact h5
end AS
