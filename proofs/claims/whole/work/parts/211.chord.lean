/-! a stroke by the letters of its keys -/
/-- a row holds a list -/
def ar (a : Nat → Int32) (l : List Int32) : Prop := ∀ i x, l[i]? = some x → a i = x
theorem ar_nil {a : Nat → Int32} : ar a [] := fun i x h => by simp at h
theorem ar_push {a : Nat → Int32} {l : List Int32} {v : Int32} (h : ar a l) : ar (upd a l.length v) (l ++ [v]) := by
  intro i x hx
  rcases Nat.lt_or_ge i l.length with q | q
  · rw [p_upd_n (by omega)]
    rw [List.getElem?_append_left q] at hx
    exact h i x hx
  · rw [List.getElem?_append_right q] at hx
    have : i - l.length = 0 := by
      rcases Nat.eq_zero_or_pos (i - l.length) with z | z
      · exact z
      · rw [List.getElem?_eq_none (by simp; omega)] at hx
        exact absurd hx (by simp)
    rw [this] at hx
    simp at hx
    have e : i = l.length := by omega
    subst e
    rw [p_upd_s, hx]
theorem ar_at {a : Nat → Int32} {l : List Int32} {i : Nat} (h : ar a l) (hi : i < l.length) : a i = l[i] := h i _ (List.getElem?_eq_getElem hi)
def bitB (v : Int32) (j : Nat) : Bool := decide ((v >>> (nI j &&& 31)) &&& 1 = 1)
theorem bit01 (y : Int32) : (y &&& 1 = 0 ∧ ¬ y &&& 1 = 1) ∨ (y &&& 1 = 1 ∧ ¬ y &&& 1 = 0) := by
  have h := pk_and y (m := 1) 1 (by decide)
  have h2 : y.toBitVec.toNat % 2 ^ 1 < 2 := by omega
  rw [h]
  rcases (show y.toBitVec.toNat % 2 ^ 1 = 0 ∨ y.toBitVec.toNat % 2 ^ 1 = 1 by omega) with e | e <;> rw [e]
  · exact Or.inl ⟨rfl, by decide⟩
  · exact Or.inr ⟨rfl, by decide⟩
theorem isB_key : ∀ i, i < 22 → (jKey i).toInt8.toInt32 = jKey i ∧ jf_Model_letterOf (nI i) = some (jKey i) := by decide +kernel
/-- the class's way: the dash ahead of the first key of the right hand -/
def csp (b : Nat → Bool) : Nat → Nat → Bool → List Int32
  | 0, _, _ => []
  | d + 1, key, due => if b key = true then (if due = true ∧ 12 ≤ key then 45 :: jKey key :: csp b d (key + 1) false else jKey key :: csp b d (key + 1) due) else csp b d (key + 1) due
/-- the reference's: at key 12 -/
def msp (b : Nat → Bool) (dash : Bool) : Nat → Nat → List Int32
  | 0, _ => []
  | d + 1, key => (if key = 12 ∧ dash = true then [45] else []) ++ ((if b key = true then [jKey key] else []) ++ msp b dash d (key + 1))
theorem csp_y {b : Nat → Bool} {d key : Nat} (hb : b key = true) : csp b (d + 1) key false = jKey key :: csp b d (key + 1) false := by
  rw [csp, if_pos hb, if_neg (by simp)]
theorem csp_d {b : Nat → Bool} {d key : Nat} (hb : b key = true) (h : 12 ≤ key) : csp b (d + 1) key true = 45 :: jKey key :: csp b d (key + 1) false := by
  rw [csp, if_pos hb, if_pos ⟨rfl, h⟩]
theorem csp_l {b : Nat → Bool} {d key : Nat} (hb : b key = true) (h : ¬ 12 ≤ key) : csp b (d + 1) key true = jKey key :: csp b d (key + 1) true := by
  rw [csp, if_pos hb, if_neg (fun q => h q.2)]
theorem csp_n {b : Nat → Bool} {d key : Nat} {due : Bool} (hb : ¬ b key = true) : csp b (d + 1) key due = csp b d (key + 1) due := by
  rw [csp, if_neg hb]
theorem msp_y {b : Nat → Bool} {x : Bool} {d key : Nat} (hb : b key = true) (h : ¬ (key = 12 ∧ x = true)) : msp b x (d + 1) key = jKey key :: msp b x d (key + 1) := by
  rw [msp, if_neg h, if_pos hb]; rfl
theorem msp_n {b : Nat → Bool} {x : Bool} {d key : Nat} (hb : ¬ b key = true) (h : ¬ (key = 12 ∧ x = true)) : msp b x (d + 1) key = msp b x d (key + 1) := by
  rw [msp, if_neg h, if_neg hb]; rfl
theorem Chord_put_ok {v : Int32} {n : Nat} {a : Nat → Int32} (hn : n < 22) (hv : v.toInt8.toInt32 = v) : jf_Chord_put v (nI n) a = some (nI (n + 1), upd a n v) := by
  rw [jf_Chord_put, if_neg (by rw [p_lit 22]; exact p_nle (by omega) (by omega)), p_ga hn (by omega), nI_1, p_cl (by omega), pk_vb, hv]
theorem spell_loop {v : Int32} : ∀ (d key g : Nat) (due : Bool) (l : List Int32) (a : Nat → Int32), key + d = 22 → d < g → ar a l → l.length + (csp (bitB v) d key due).length ≤ 22 → ∃ a', jf_Chord_spell_b21 v g (if due = true then 1 else 0) (nI key) (nI l.length) a = some (nI (l ++ csp (bitB v) d key due).length, a') ∧ ar a' (l ++ csp (bitB v) d key due) := by
  intro d
  induction d with
  | zero =>
    intro key g due l a hk hg ha hl
    obtain ⟨g, rfl⟩ : ∃ z, g = z + 1 := ⟨g - 1, by omega⟩
    refine ⟨a, ?_, by rw [csp, List.append_nil]; exact ha⟩
    rw [jf_Chord_spell_b21, if_pos (by rw [p_lit 22]; exact p_yle (by omega) (by omega)), csp, List.append_nil]
  | succ d ih =>
    intro key g due l a hk hg ha hl
    obtain ⟨g, rfl⟩ : ∃ z, g = z + 1 := ⟨g - 1, by omega⟩
    obtain ⟨hkb, -⟩ := isB_key key (by omega)
    have e57 : ∀ (due : Bool) (l : List Int32) (a : Nat → Int32), ar a l → l.length + 1 + (csp (bitB v) d (key + 1) due).length ≤ 22 → ∃ a', jf_Chord_spell_b57 (jf_Chord_spell_b21 v g) (if due = true then 1 else 0) (nI key) (nI l.length) a = some (nI (l ++ jKey key :: csp (bitB v) d (key + 1) due).length, a') ∧ ar a' (l ++ jKey key :: csp (bitB v) d (key + 1) due) := by
      intro due l a ha hl
      obtain ⟨a', h1, h2⟩ := ih (key + 1) g due (l ++ [jKey key]) (upd a l.length (jKey key)) (by omega) (by omega) (ar_push ha) (by rw [List.length_append, List.length_singleton]; omega)
      rw [List.append_assoc, List.singleton_append] at h1 h2
      refine ⟨a', ?_, h2⟩
      rw [jf_Chord_spell_b57, p_ga (by omega) (by omega), p_cl (by omega), Chord_put_ok (by omega) hkb, Option.bind_some]
      dsimp only
      rw [jf_Chord_spell_b67, nI_1]
      rw [List.length_append, List.length_singleton] at h1
      exact h1
    rw [jf_Chord_spell_b21, if_neg (by rw [p_lit 22]; exact p_nle (by omega) (by omega))]
    by_cases hb : bitB v key = true
    · rw [if_pos (show (v >>> (nI key &&& 31)) &&& 1 = 1 from of_decide_eq_true hb)]
      cases due with
      | false =>
        rw [csp_y hb] at hl ⊢
        rw [if_pos (show (if false = true then (1 : Int32) else 0) = 0 from rfl)]
        exact e57 false l a ha (by rw [List.length_cons] at hl; omega)
      | true =>
        rw [if_neg (show ¬ (if true = true then (1 : Int32) else 0) = 0 from by decide)]
        by_cases h12 : 12 ≤ key
        · rw [csp_d hb h12] at hl ⊢
          rw [List.length_cons, List.length_cons] at hl
          rw [if_neg (show ¬ nI key < 12 from p_nlt (b := 12) h12 (by omega)), Chord_put_ok (by omega) (by decide), Option.bind_some]
          dsimp only
          obtain ⟨a', h1, h2⟩ := e57 false (l ++ [45]) (upd a l.length 45) (ar_push ha) (by rw [List.length_append, List.length_singleton]; omega)
          rw [List.append_assoc, List.singleton_append] at h1 h2
          refine ⟨a', ?_, h2⟩
          rw [List.length_append, List.length_singleton] at h1
          exact h1
        · rw [csp_l hb h12] at hl ⊢
          rw [if_pos (show nI key < 12 from p_ylt (b := 12) (by omega) (by omega))]
          exact e57 true l a ha (by rw [List.length_cons] at hl; omega)
    · rw [csp_n hb] at hl ⊢
      rw [if_neg (show ¬ (v >>> (nI key &&& 31)) &&& 1 = 1 from fun q => hb (decide_eq_true q)), jf_Chord_spell_b67, nI_1]
      exact ih (key + 1) g due l a (by omega) (by omega) ha hl
theorem writes_loop {v : Int32} {mid right : Int32} {dash : Bool} (hd : dash = true ↔ ¬ right = 0 ∧ mid = 0) : ∀ (d key g : Nat) (l : List Int32) (a : Nat → Int32), key + d = 22 → d < g → ar a l → l.length + (msp (bitB v) dash d key).length ≤ 24 → ∃ a', jf_Model_writes_b35 v g mid right (nI key) (nI l.length) a = some (nI (l ++ msp (bitB v) dash d key).length, a') ∧ ar a' (l ++ msp (bitB v) dash d key) := by
  intro d
  induction d with
  | zero =>
    intro key g l a hk hg ha hl
    obtain ⟨g, rfl⟩ : ∃ z, g = z + 1 := ⟨g - 1, by omega⟩
    refine ⟨a, ?_, by rw [msp, List.append_nil]; exact ha⟩
    rw [jf_Model_writes_b35, if_pos (by rw [p_lit 22]; exact p_yle (by omega) (by omega)), msp, List.append_nil]
  | succ d ih =>
    intro key g l a hk hg ha hl
    obtain ⟨g, rfl⟩ : ∃ z, g = z + 1 := ⟨g - 1, by omega⟩
    obtain ⟨hkb, hkl⟩ := isB_key key (by omega)
    have e78 : ∀ (l : List Int32) (a : Nat → Int32), ar a l → l.length + ((if bitB v key = true then [jKey key] else []) ++ msp (bitB v) dash d (key + 1)).length ≤ 24 → ∃ a', jf_Model_writes_b78 v (jf_Model_writes_b35 v g) mid right (nI key) (nI l.length) a = some (nI (l ++ ((if bitB v key = true then [jKey key] else []) ++ msp (bitB v) dash d (key + 1))).length, a') ∧ ar a' (l ++ ((if bitB v key = true then [jKey key] else []) ++ msp (bitB v) dash d (key + 1))) := by
      intro l a ha hl
      rw [jf_Model_writes_b78]
      by_cases hb : bitB v key = true
      · rw [if_pos hb] at hl ⊢
        rw [if_neg (show ¬ (v >>> (nI key &&& 31)) &&& 1 = 0 from by
          rcases bit01 (v >>> (nI key &&& 31)) with q | q
          · exact absurd (of_decide_eq_true hb) q.2
          · exact q.2), hkl, Option.bind_some]
        rw [List.length_append, List.length_singleton] at hl
        rw [p_ga (by omega) (by omega), jf_Model_writes_b115, nI_1, nI_1, p_cl (by omega), pk_vb, hkb]
        obtain ⟨a', h1, h2⟩ := ih (key + 1) g (l ++ [jKey key]) (upd a l.length (jKey key)) (by omega) (by omega) (ar_push ha) (by rw [List.length_append, List.length_singleton]; omega)
        rw [List.append_assoc] at h1 h2
        refine ⟨a', ?_, h2⟩
        rw [List.length_append, List.length_singleton] at h1
        exact h1
      · rw [if_neg hb] at hl ⊢
        rw [if_pos (show (v >>> (nI key &&& 31)) &&& 1 = 0 from by
          rcases bit01 (v >>> (nI key &&& 31)) with q | q
          · exact q.1
          · exact absurd (decide_eq_true q.1) hb), jf_Model_writes_b115, nI_1]
        rw [List.nil_append] at hl ⊢
        exact ih (key + 1) g l a (by omega) (by omega) ha hl
    rw [jf_Model_writes_b35, if_neg (by rw [p_lit 22]; exact p_nle (by omega) (by omega))]
    by_cases h12 : key = 12
    · rw [if_pos (show nI key = 12 from by rw [h12]; rfl)]
      by_cases hds : dash = true
      · obtain ⟨hr, hm⟩ := hd.mp hds
        have em : msp (bitB v) dash (d + 1) key = [45] ++ ((if bitB v key = true then [jKey key] else []) ++ msp (bitB v) dash d (key + 1)) := by rw [msp, if_pos ⟨h12, hds⟩]
        rw [em] at hl ⊢
        rw [List.length_append, List.length_singleton] at hl
        rw [if_neg hr, if_pos hm, p_ga (by omega) (by omega), nI_1, p_cl (by omega), show vp_nar .byte 45 = 45 from by decide]
        obtain ⟨a', h1, h2⟩ := e78 (l ++ [45]) (upd a l.length 45) (ar_push ha) (by rw [List.length_append (as := l), List.length_singleton]; omega)
        rw [List.append_assoc] at h1 h2
        refine ⟨a', ?_, h2⟩
        rw [List.length_append (as := l) (bs := [45]), List.length_singleton] at h1
        exact h1
      · have em : msp (bitB v) dash (d + 1) key = (if bitB v key = true then [jKey key] else []) ++ msp (bitB v) dash d (key + 1) := by rw [msp, if_neg (fun q => hds q.2)]; rfl
        rw [em] at hl ⊢
        have h78 := e78 l a ha hl
        by_cases hr : right = 0
        · rw [if_pos hr]; exact h78
        · rw [if_neg hr, if_neg (fun q => hds (hd.mpr ⟨hr, q⟩))]; exact h78
    · have em : msp (bitB v) dash (d + 1) key = (if bitB v key = true then [jKey key] else []) ++ msp (bitB v) dash d (key + 1) := by rw [msp, if_neg (fun q => h12 q.1)]; rfl
      rw [em] at hl ⊢
      rw [if_neg (show ¬ nI key = 12 from p_ne (b := 12) h12 (by omega) (by omega))]
      exact e78 l a ha hl
/-- no dash is due: the same list -/
theorem sp_no {b : Nat → Bool} : ∀ (d key : Nat), csp b d key false = msp b false d key := by
  intro d
  induction d with
  | zero => intro key; rw [csp, msp]
  | succ d ih =>
    intro key
    by_cases hb : b key = true
    · rw [csp_y hb, msp_y hb (by simp), ih]
    · rw [csp_n hb, msp_n hb (by simp), ih]
/-- past key 12 the reference puts no dash -/
theorem sp_past {b : Nat → Bool} : ∀ (d key : Nat) (x y : Bool), 12 < key → msp b x d key = msp b y d key := by
  intro d
  induction d with
  | zero => intro key x y h; rw [msp, msp]
  | succ d ih =>
    intro key x y h
    by_cases hb : b key = true
    · rw [msp_y hb (fun q => by omega), msp_y hb (fun q => by omega), ih (key + 1) x y (by omega)]
    · rw [msp_n hb (fun q => by omega), msp_n hb (fun q => by omega), ih (key + 1) x y (by omega)]
/-- from key 12 on, a dash due: it stands ahead of the first key that is there -/
theorem sp_due {b : Nat → Bool} : ∀ (d key : Nat), 12 ≤ key → ((∃ j, key ≤ j ∧ j < key + d ∧ b j = true) → csp b d key true = 45 :: msp b false d key) ∧ ((∀ j, key ≤ j → j < key + d → ¬ b j = true) → csp b d key true = msp b false d key) := by
  intro d
  induction d with
  | zero =>
    intro key h
    refine ⟨fun ⟨j, h1, h2, _⟩ => by omega, fun _ => by rw [csp, msp]⟩
  | succ d ih =>
    intro key h
    obtain ⟨ih1, ih2⟩ := ih (key + 1) (by omega)
    by_cases hb : b key = true
    · refine ⟨fun _ => by rw [csp_d hb h, msp_y hb (by simp), sp_no], fun hn => absurd hb (hn key (Nat.le_refl key) (by omega))⟩
    · refine ⟨fun ⟨j, h1, h2, h3⟩ => ?_, fun hn => ?_⟩
      · rw [csp_n hb, msp_n hb (by simp)]
        refine ih1 ⟨j, ?_, by omega, h3⟩
        rcases Nat.lt_or_ge key j with q | q
        · omega
        · have : j = key := by omega
          subst this
          exact absurd h3 hb
      · rw [csp_n hb, msp_n hb (by simp)]
        exact ih2 (fun j h1 h2 => hn j (by omega) (by omega))
/-- a dash due, from the left: the reference puts it at key 12 if a key of the right hand is there -/
theorem sp_same {b : Nat → Bool} {x : Bool} (hx : x = true ↔ ∃ j, 12 ≤ j ∧ j < 22 ∧ b j = true) : ∀ (d key : Nat), key ≤ 12 → key + d = 22 → csp b d key true = msp b x d key := by
  intro d
  induction d with
  | zero => intro key h1 h2; omega
  | succ d ih =>
    intro key h1 h2
    by_cases h12 : key = 12
    · subst h12
      obtain ⟨s1, s2⟩ := sp_due (b := b) (d + 1) 12 (Nat.le_refl 12)
      cases x with
      | true =>
        obtain ⟨j, q1, q2, q3⟩ := hx.mp rfl
        have e1 : msp b true (d + 1) 12 = [45] ++ ((if b 12 = true then [jKey 12] else []) ++ msp b true d 13) := by rw [msp, if_pos ⟨rfl, rfl⟩]
        have e2 : msp b false (d + 1) 12 = (if b 12 = true then [jKey 12] else []) ++ msp b false d 13 := by rw [msp, if_neg (by simp)]; rfl
        rw [s1 ⟨j, q1, by omega, q3⟩, e1, e2, sp_past d 13 false true (by omega)]
        rfl
      | false =>
        rw [s2 (fun j q1 q2 q3 => absurd (hx.mpr ⟨j, q1, by omega, q3⟩) (by simp))]
    · by_cases hb : b key = true
      · rw [csp_l hb (by omega), msp_y hb (fun q => h12 q.1), ih (key + 1) (by omega) (by omega)]
      · rw [csp_n hb, msp_n hb (fun q => h12 q.1), ih (key + 1) (by omega) (by omega)]
theorem csp_len {b : Nat → Bool} : ∀ (d key : Nat) (due : Bool), (csp b d key due).length ≤ d + (if due = true then 1 else 0) := by
  intro d
  induction d with
  | zero => intro key due; rw [csp]; exact Nat.zero_le _
  | succ d ih =>
    intro key due
    by_cases hb : b key = true
    · cases due with
      | false =>
        rw [csp_y hb, List.length_cons]
        have := ih (key + 1) false
        omega
      | true =>
        by_cases h12 : 12 ≤ key
        · rw [csp_d hb h12, List.length_cons, List.length_cons]
          have := ih (key + 1) false
          simp at this ⊢
          omega
        · rw [csp_l hb h12, List.length_cons]
          have := ih (key + 1) true
          simp at this ⊢
          omega
    · rw [csp_n hb]
      have := ih (key + 1) due
      omega
theorem csp_len1 {b : Nat → Bool} : ∀ (d key : Nat) (due : Bool) (j : Nat), key ≤ j → j < key + d → ¬ b j = true → (csp b d key due).length + 1 ≤ d + (if due = true then 1 else 0) := by
  intro d
  induction d with
  | zero => intro key due j h1 h2; omega
  | succ d ih =>
    intro key due j h1 h2 hj
    by_cases hb : b key = true
    · have hne : key ≠ j := fun e => hj (e ▸ hb)
      cases due with
      | false =>
        rw [csp_y hb, List.length_cons]
        have := ih (key + 1) false j (by omega) (by omega) hj
        omega
      | true =>
        by_cases h12 : 12 ≤ key
        · rw [csp_d hb h12, List.length_cons, List.length_cons]
          have := ih (key + 1) false j (by omega) (by omega) hj
          simp at this ⊢
          omega
        · rw [csp_l hb h12, List.length_cons]
          have := ih (key + 1) true j (by omega) (by omega) hj
          simp at this ⊢
          omega
    · rw [csp_n hb]
      have := csp_len (b := b) d (key + 1) due
      omega
theorem sm32 : ∀ n, n < 32 → ((nI n &&& 31).toBitVec.smod 32).toNat = n := by decide +kernel
theorem bitB_nI {m j : Nat} (hm : m < 4194304) (hj : j < 22) : bitB (nI m) j = decide (m / 2 ^ j % 2 = 1) := by
  unfold bitB
  rw [pk_shrN (by omega) _ j (sm32 j (by omega)), pk_andN (by have := Nat.div_le_self m (2 ^ j); omega) 1 (by decide)]
  have h : m / 2 ^ j % 2 ^ 1 < 2 := by omega
  rcases (show m / 2 ^ j % 2 = 0 ∨ m / 2 ^ j % 2 = 1 by omega) with e | e
  · rw [show m / 2 ^ j % 2 ^ 1 = 0 from e]; decide
  · rw [show m / 2 ^ j % 2 ^ 1 = 1 from e]; decide
theorem right_all (p : Nat) (hp : p < 1024) : (p ≠ 0 ↔ ∃ i, i < 10 ∧ p / 2 ^ i % 2 = 1) := by
  constructor
  · intro h
    obtain ⟨i, hi⟩ := Nat.exists_testBit_of_ne_zero h
    have h2 := Nat.ge_two_pow_of_testBit hi
    refine ⟨i, ?_, ?_⟩
    · rcases Nat.lt_or_ge i 10 with q | q
      · exact q
      · have := Nat.pow_le_pow_right (n := 2) (by omega) q
        omega
    · rw [Nat.testBit_eq_decide_div_mod_eq, decide_eq_true_iff] at hi
      exact hi
  · rintro ⟨i, -, h⟩ e
    rw [e, Nat.zero_div] at h
    exact absurd h (by decide)
theorem isSt_nI {v : Int32} (h : isSt v) : ∃ m : Nat, 0 < m ∧ m < 4194304 ∧ v = nI m := by
  obtain ⟨j, hj, e⟩ := nI_of2 (x := v) (M := 4194303) (n := 4194303) (by decide) (fun q => h.1 (Int32.le_of_lt q)) (Int32.not_lt.mp h.2)
  refine ⟨j, ?_, by omega, e⟩
  rcases Nat.eq_zero_or_pos j with z | z
  · subst z
    exact absurd (by rw [e]; decide) h.1
  · exact z
def dashB (v : Int32) : Bool := decide (¬ (v >>> (12 &&& 31)) = 0 ∧ (v &&& 3968) = 0)
/-- the letters of a stroke -/
def chd (v : Int32) : List Int32 := msp (bitB v) (dashB v) 22 0
theorem right_ok {v : Int32} (h : isSt v) : (¬ (v >>> (12 &&& 31)) = 0) ↔ ∃ j, 12 ≤ j ∧ j < 22 ∧ bitB v j = true := by
  obtain ⟨m, -, hm, rfl⟩ := isSt_nI h
  have e12 : nI m >>> ((12 : Int32) &&& 31) = nI (m / 2 ^ 12) := pk_shrN (by omega) _ 12 (by decide)
  rw [e12]
  have hr := right_all (m / 2 ^ 12) (by omega)
  have h0 : (¬ nI (m / 2 ^ 12) = 0) ↔ m / 2 ^ 12 ≠ 0 := by
    rw [show (0 : Int32) = nI 0 from rfl, p_eq (by omega) (by omega)]
  rw [h0, hr]
  constructor
  · rintro ⟨i, hi, h1⟩
    refine ⟨12 + i, by omega, by omega, ?_⟩
    rw [bitB_nI hm (by omega), decide_eq_true_iff, Nat.pow_add, ← Nat.div_div_eq_div_mul]
    exact h1
  · rintro ⟨j, h1, h2, h3⟩
    refine ⟨j - 12, by omega, ?_⟩
    rw [bitB_nI hm (by omega), decide_eq_true_iff, show j = 12 + (j - 12) by omega, Nat.pow_add, ← Nat.div_div_eq_div_mul] at h3
    exact h3
theorem mid_ok {v : Int32} (h : isSt v) (h0 : (v &&& 3968) = 0) : ¬ bitB v 7 = true := by
  obtain ⟨m, -, hm, rfl⟩ := isSt_nI h
  have e : nI m &&& nI 3968 = nI (m &&& 3968) := by
    apply Int32.toBitVec_inj.1
    show (BitVec.ofNat 32 m &&& BitVec.ofNat 32 3968) = BitVec.ofNat 32 (m &&& 3968)
    rw [BitVec.ofNat_and]
  have hle : m &&& 3968 ≤ m := Nat.and_le_left
  have h1 : m &&& 3968 = 0 := by
    have : nI (m &&& 3968) = nI 0 := by rw [← e]; exact h0
    rw [p_eq (by omega) (by omega)] at this
    exact this
  have h2 : (m &&& 3968).testBit 7 = false := by rw [h1]; decide
  rw [Nat.testBit_and, show (3968 : Nat).testBit 7 = true from by decide, Bool.and_true, Nat.testBit_eq_decide_div_mod_eq, decide_eq_false_iff_not] at h2
  rw [bitB_nI hm (by omega), decide_eq_true_iff]
  exact h2
theorem chd_ok {v : Int32} (h : isSt v) : csp (bitB v) 22 0 (decide ((v &&& 3968) = 0)) = chd v ∧ (chd v).length ≤ 22 := by
  by_cases hm : (v &&& 3968) = 0
  · have e : csp (bitB v) 22 0 true = chd v := sp_same (b := bitB v) (x := dashB v) (by
      unfold dashB
      rw [decide_eq_true_iff]
      exact ⟨fun q => (right_ok h).mp q.1, fun q => ⟨(right_ok h).mpr q, hm⟩⟩) 22 0 (by omega) (by omega)
    rw [decide_eq_true hm]
    refine ⟨e, ?_⟩
    have := csp_len1 (b := bitB v) 22 0 true 7 (by omega) (by omega) (mid_ok h hm)
    rw [e] at this
    simp at this
    omega
  · have e : csp (bitB v) 22 0 false = chd v := by
      unfold chd
      rw [show dashB v = false from decide_eq_false (fun q => hm q.2)]
      exact sp_no 22 0
    rw [decide_eq_false hm]
    refine ⟨e, ?_⟩
    have := csp_len (b := bitB v) 22 0 false
    rw [e] at this
    simp at this
    omega
theorem spell_ok {N : Nat} {v z : Int32} {a : Nat → Int32} (hN : 23 ≤ N) (h : isSt v) : ∃ a', jf_Chord_spell N v z a = some (nI (chd v).length, a') ∧ ar a' (chd v) := by
  obtain ⟨e1, e2⟩ := chd_ok h
  obtain ⟨a', h1, h2⟩ := spell_loop (v := v) 22 0 N (decide ((v &&& 3968) = 0)) [] a (by omega) (by omega) ar_nil (by rw [e1]; simp; omega)
  rw [e1, List.nil_append] at h1 h2
  refine ⟨a', ?_, h2⟩
  rw [jf_Chord_spell]
  by_cases hm : (v &&& 3968) = 0
  · rw [if_pos hm, jf_Chord_spell_b18]
    rw [decide_eq_true hm] at h1
    exact h1
  · rw [if_neg hm, jf_Chord_spell_b18]
    rw [decide_eq_false hm] at h1
    exact h1
theorem writes_ok {N : Nat} {v z : Int32} {a : Nat → Int32} (hN : 23 ≤ N) (h : isSt v) : ∃ a', jf_Model_writes N v z a = some (nI (chd v).length, a') ∧ ar a' (chd v) := by
  obtain ⟨e1, e2⟩ := chd_ok h
  have key : ∀ mid right : Int32, (dashB v = true ↔ ¬ right = 0 ∧ mid = 0) → ∃ a', jf_Model_writes_b35 v N mid right 0 0 a = some (nI (chd v).length, a') ∧ ar a' (chd v) := by
    intro mid right hd
    obtain ⟨a', h1, h2⟩ := writes_loop (v := v) (mid := mid) (right := right) (dash := dashB v) hd 22 0 N [] a (by omega) (by omega) ar_nil (by rw [show msp (bitB v) (dashB v) 22 0 = chd v from rfl, List.length_nil]; omega)
    rw [List.nil_append, show msp (bitB v) (dashB v) 22 0 = chd v from rfl] at h1 h2
    exact ⟨a', h1, h2⟩
  rw [jf_Model_writes]
  by_cases hm : (v &&& 3968) = 0
  · rw [if_pos hm, jf_Model_writes_b18]
    by_cases hr : (v >>> (12 &&& 31)) = 0
    · rw [if_pos hr, jf_Model_writes_b31]
      exact key 0 0 (by unfold dashB; rw [decide_eq_true_iff]; exact ⟨fun q => absurd hr q.1, fun q => absurd rfl q.1⟩)
    · rw [if_neg hr, jf_Model_writes_b31]
      exact key 0 1 (by unfold dashB; rw [decide_eq_true_iff]; exact ⟨fun q => ⟨by decide, rfl⟩, fun q => ⟨hr, hm⟩⟩)
  · rw [if_neg hm, jf_Model_writes_b18]
    by_cases hr : (v >>> (12 &&& 31)) = 0
    · rw [if_pos hr, jf_Model_writes_b31]
      exact key 1 0 (by unfold dashB; rw [decide_eq_true_iff]; exact ⟨fun q => absurd q.2 hm, fun q => absurd rfl q.1⟩)
    · rw [if_neg hr, jf_Model_writes_b31]
      exact key 1 1 (by unfold dashB; rw [decide_eq_true_iff]; exact ⟨fun q => absurd q.2 hm, fun q => absurd q.2 (by decide)⟩)
/-- promise 14 on both sides -/
theorem op_written {N n : Nat} {x y cs ms cz mz : Int32} {ck mk ca ma : Nat → Int32} (hN : 23 ≤ N) (h : rcR n cs ck ms mk) : ∃ (r cz' mz' : Int32) (ca' ma' : Nat → Int32), jf_Room_written N x y cs ck cz ca = some (r, cz', ca') ∧ jf_Model_written N x y ms mk mz ma = some (r, mz', ma') := by
  obtain ⟨hn, rfl, rfl, hk⟩ := id h
  rcases p_ix x (n := n) (by omega) with h0 | ⟨h1, h0⟩ | ⟨j, hj, rfl⟩
  · exact ⟨-1, cz, mz, ca, ma, by rw [jf_Room_written, Reading_has_neg h0, Option.bind_some, if_pos rfl], by rw [jf_Model_written, if_pos h0]⟩
  · exact ⟨-1, cz, mz, ca, ma, by rw [jf_Room_written, Reading_has_big h1, Option.bind_some, if_pos rfl], by rw [jf_Model_written, if_neg h0, if_neg (Int32.not_lt.mpr h1)]⟩
  · obtain ⟨e1, hst⟩ := hk j hj
    obtain ⟨ca', c1, c2⟩ := spell_ok (N := N) (z := cz) (a := ca) hN hst
    obtain ⟨ma', m1, m2⟩ := writes_ok (N := N) (z := mz) (a := ma) hN hst
    obtain ⟨-, hlen⟩ := chd_ok hst
    have hc : jf_Room_written N (nI j) y (nI n) ck cz ca = (jf_Chord_byteAt y (nI (chd (ck j)).length) ca').bind (fun r33 => some (r33, nI (chd (ck j)).length, ca')) := by
      rw [jf_Room_written, Reading_has_in hj hn, Option.bind_some, if_neg (by decide), jf_Reading_keysAt, if_neg (p_n0 (by omega)), if_neg (p_nle hj (by omega)), p_ga (by omega) (by omega), p_cl (by omega), Option.bind_some, c1, Option.bind_some]
    have hm : jf_Model_written N (nI j) y (nI n) mk mz ma = if y < 0 then some (-1, nI (chd (ck j)).length, ma') else if nI (chd (ck j)).length ≤ y then some (-1, nI (chd (ck j)).length, ma') else jga y 24 (some (ma' y.toNatClampNeg, nI (chd (ck j)).length, ma')) := by
      rw [jf_Model_written, if_neg (p_n0 (by omega)), if_pos (p_ylt hj (by omega)), p_ga (by omega) (by omega), p_cl (by omega), e1, m1, Option.bind_some]
    rcases p_ix y (n := (chd (ck j)).length) (by omega) with q0 | ⟨q1, q0⟩ | ⟨i, hi, rfl⟩
    · exact ⟨-1, _, _, ca', ma', by rw [hc, jf_Chord_byteAt, if_pos q0, Option.bind_some], by rw [hm, if_pos q0]⟩
    · exact ⟨-1, _, _, ca', ma', by rw [hc, jf_Chord_byteAt, if_neg q0, if_pos q1, Option.bind_some], by rw [hm, if_neg q0, if_pos q1]⟩
    · refine ⟨(chd (ck j))[i], nI (chd (ck j)).length, nI (chd (ck j)).length, ca', ma', ?_, ?_⟩
      · rw [hc, jf_Chord_byteAt, if_neg (p_n0 (by omega)), if_neg (p_nle hi (by omega)), p_ga (by omega) (by omega), p_cl (by omega), Option.bind_some, ar_at c2 hi]
      · rw [hm, if_neg (p_n0 (by omega)), if_neg (p_nle hi (by omega)), p_ga (by omega) (by omega), p_cl (by omega), ar_at m2 hi]
