/-! the best ways to write a word, entry behind entry -/
/-- strokes, entries, the first entry -/
abbrev Wy := Option (Nat × Nat × Nat)
def bett (w : Wy) (c : Option (Nat × Nat)) (K : Nat) : Wy := match c with
  | none => w
  | some (s, m) => match w with
    | none => some (s, m, K)
    | some (s', m', k') => if s < s' ∨ (s = s' ∧ m < m') then some (s, m, K) else some (s', m', k')
/-- the first n letters of entry k stand at p -/
def lets (tx ask : Nat → Int32) (k n p : Nat) : Prop := ∀ i, i < n → ask (p + i) = tx (16 * k + i)
def cth (kd : Nat → Int32) (sc ln : Nat → Nat) (tx ask : Nat → Int32) (inn lst : Int32) (to : Nat) (B : Nat → Wy) (p k : Nat) : Option (Nat × Nat) :=
  if p + ln k = to then (if kd k = lst then some (sc k, 1) else none)
  else if to < p + ln k then none
  else if kd k = inn then (match B (p + ln k) with
    | none => none
    | some (s, m, _) => some (sc k + s, 1 + m)) else none
noncomputable def cnd (kd : Nat → Int32) (sc ln : Nat → Nat) (tx ask : Nat → Int32) (inn lst : Int32) (to : Nat) (B : Nat → Wy) (p k : Nat) : Option (Nat × Nat) := by
  classical exact if lets tx ask k (ln k) p then cth kd sc ln tx ask inn lst to B p k else none
noncomputable def fld (kd : Nat → Int32) (sc ln : Nat → Nat) (tx ask : Nat → Int32) (inn lst : Int32) (to : Nat) (B : Nat → Wy) (p : Nat) : Nat → Wy
  | 0 => none
  | K + 1 => bett (fld kd sc ln tx ask inn lst to B p K) (cnd kd sc ln tx ask inn lst to B p K) K
noncomputable def BF (kd : Nat → Int32) (sc ln : Nat → Nat) (tx ask : Nat → Int32) (inn lst : Int32) (to : Nat) (ne : Nat) : Nat → Nat → Wy
  | 0, _ => none
  | d + 1, p => if p = to - (d + 1) then fld kd sc ln tx ask inn lst to (BF kd sc ln tx ask inn lst to ne d) (to - (d + 1)) ne else BF kd sc ln tx ask inn lst to ne d p
section BW
variable {N ne : Nat} {kd : Nat → Int32} {sc : Nat → Nat} {st : Nat → Int32} {ln : Nat → Nat} {tx ask : Nat → Int32} {inn lst : Int32} {to : Nat}
theorem cnd_y {B : Nat → Wy} {p k : Nat} (h : lets tx ask k (ln k) p) : cnd kd sc ln tx ask inn lst to B p k = cth kd sc ln tx ask inn lst to B p k := by
  unfold cnd
  exact if_pos h
theorem cnd_n {B : Nat → Wy} {p k : Nat} (h : ¬ lets tx ask k (ln k) p) : cnd kd sc ln tx ask inn lst to B p k = none := by
  unfold cnd
  exact if_neg h
theorem cnd_th {B : Nat → Wy} {p k : Nat} (h : cth kd sc ln tx ask inn lst to B p k = none) : cnd kd sc ln tx ask inn lst to B p k = none := by
  by_cases q : lets tx ask k (ln k) p
  · rw [cnd_y q, h]
  · exact cnd_n q
theorem cnd_s {B : Nat → Wy} {p k s m : Nat} (h : cnd kd sc ln tx ask inn lst to B p k = some (s, m)) : lets tx ask k (ln k) p ∧ cth kd sc ln tx ask inn lst to B p k = some (s, m) := by
  by_cases q : lets tx ask k (ln k) p
  · rw [cnd_y q] at h; exact ⟨q, h⟩
  · rw [cnd_n q] at h; cases h
theorem fld_s {B : Nat → Wy} {p : Nat} : ∀ (K : Nat) {s m k : Nat}, fld kd sc ln tx ask inn lst to B p K = some (s, m, k) → k < K ∧ cnd kd sc ln tx ask inn lst to B p k = some (s, m) := by
  intro K
  induction K with
  | zero => intro s m k h; rw [fld] at h; cases h
  | succ K ih =>
    intro s m k h
    rw [fld] at h
    unfold bett at h
    cases hc : cnd kd sc ln tx ask inn lst to B p K with
    | none =>
      rw [hc] at h
      obtain ⟨h1, h2⟩ := ih h
      exact ⟨by omega, h2⟩
    | some c =>
      obtain ⟨s0, m0⟩ := c
      rw [hc] at h
      cases hw : fld kd sc ln tx ask inn lst to B p K with
      | none =>
        rw [hw] at h
        cases h
        exact ⟨by omega, hc⟩
      | some w =>
        obtain ⟨s1, m1, k1⟩ := w
        rw [hw] at h
        dsimp only at h
        by_cases q : s0 < s1 ∨ (s0 = s1 ∧ m0 < m1)
        · rw [if_pos q] at h
          cases h
          exact ⟨by omega, hc⟩
        · rw [if_neg q] at h
          cases h
          obtain ⟨h1, h2⟩ := ih hw
          exact ⟨by omega, h2⟩
theorem BF_at {d : Nat} : BF kd sc ln tx ask inn lst to ne (d + 1) (to - (d + 1)) = fld kd sc ln tx ask inn lst to (BF kd sc ln tx ask inn lst to ne d) (to - (d + 1)) ne := by rw [BF, if_pos rfl]
theorem BF_ot {d p : Nat} (h : p ≠ to - (d + 1)) : BF kd sc ln tx ask inn lst to ne (d + 1) p = BF kd sc ln tx ask inn lst to ne d p := by rw [BF, if_neg h]
/-- what a best way is made of -/
def bwS (kd : Nat → Int32) (sc ln : Nat → Nat) (tx ask : Nat → Int32) (inn lst : Int32) (to : Nat) (ne d p s m k : Nat) : Prop := k < ne ∧ p + ln k ≤ to ∧ 1 ≤ ln k ∧ to - d ≤ p ∧ s ≤ 5 * (to - p) ∧ 1 ≤ m ∧ m ≤ to - p ∧ ((p + ln k = to ∧ kd k = lst ∧ s = sc k ∧ m = 1) ∨ (p + ln k < to ∧ kd k = inn ∧ ∃ s' m' k', BF kd sc ln tx ask inn lst to ne d (p + ln k) = some (s', m', k') ∧ s = sc k + s' ∧ m = 1 + m'))
/-- what is asked of the book -/
def bkL (ne : Nat) (kd : Nat → Int32) (sc ln : Nat → Nat) (inn lst : Int32) : Prop := ∀ k, k < ne → sc k ≤ 5 ∧ ln k ≤ 16 ∧ (kd k = inn ∨ kd k = lst → 1 ≤ ln k)
theorem BF_ok (hb : bkL ne kd sc ln inn lst) : ∀ (d : Nat), d ≤ to → ∀ p s m k, BF kd sc ln tx ask inn lst to ne d p = some (s, m, k) → bwS kd sc ln tx ask inn lst to ne d p s m k := by
  intro d
  induction d with
  | zero => intro _ p s m k h; rw [BF] at h; cases h
  | succ d ih =>
    intro hd p s m k h
    by_cases hp : p = to - (d + 1)
    · subst hp
      rw [BF_at] at h
      obtain ⟨h1, h2⟩ := fld_s ne h
      obtain ⟨-, h3⟩ := cnd_s h2
      obtain ⟨b1, b2, b3⟩ := hb k h1
      unfold cth at h3
      by_cases e1 : to - (d + 1) + ln k = to
      · rw [if_pos e1] at h3
        by_cases e2 : kd k = lst
        · rw [if_pos e2] at h3
          cases h3
          have := b3 (Or.inr e2)
          exact ⟨h1, by omega, by omega, by omega, by omega, by omega, by omega, Or.inl ⟨e1, e2, rfl, rfl⟩⟩
        · rw [if_neg e2] at h3; cases h3
      · rw [if_neg e1] at h3
        by_cases e3 : to < to - (d + 1) + ln k
        · rw [if_pos e3] at h3; cases h3
        · rw [if_neg e3] at h3
          by_cases e4 : kd k = inn
          · rw [if_pos e4] at h3
            have hl := b3 (Or.inl e4)
            cases hB : BF kd sc ln tx ask inn lst to ne d (to - (d + 1) + ln k) with
            | none => rw [hB] at h3; cases h3
            | some w =>
              obtain ⟨s', m', k'⟩ := w
              rw [hB] at h3
              cases h3
              obtain ⟨w1, w2, w3, w4, w5, w6, w7, -⟩ := ih (by omega) _ _ _ _ hB
              exact ⟨h1, by omega, by omega, by omega, by omega, by omega, by omega, Or.inr ⟨by omega, e4, s', m', k', by rw [BF_ot (by omega)]; exact hB, rfl, rfl⟩⟩
          · rw [if_neg e4] at h3; cases h3
    · rw [BF_ot hp] at h
      obtain ⟨w1, w2, w3, w4, w5, w6, w7, w8⟩ := ih (by omega) _ _ _ _ h
      refine ⟨w1, w2, w3, by omega, w5, w6, w7, ?_⟩
      rcases w8 with w8 | ⟨x1, x2, s', m', k', x3, x4, x5⟩
      · exact Or.inl w8
      · exact Or.inr ⟨x1, x2, s', m', k', by rw [BF_ot (by omega)]; exact x3, x4, x5⟩
/-- one number for a way -/
def encW : Wy → Nat
  | none => 2147483647
  | some (s, m, k) => (s * 64 + m) * 64 + k
def pckW : Wy → Int32
  | none => -1
  | some (_, _, k) => nI k
def encC (c : Option (Nat × Nat)) (k : Nat) : Nat := match c with
  | none => 2147483647
  | some (s, m) => (s * 64 + m) * 64 + k
theorem costOf_ok (a b c : Nat) : jf_Chain_costOf (nI a) (nI b) (nI c) = some (nI ((a * 64 + b) * 64 + c)) := by
  rw [jf_Chain_costOf, show (64 : Int32) = nI 64 from rfl, pk_mul, nI_add, pk_mul, nI_add]
/-- ways of at most so many strokes -/
def smW (w : Wy) : Prop := ∀ s m k, w = some (s, m, k) → s ≤ 300 ∧ 1 ≤ m ∧ m ≤ 60 ∧ k < 60
theorem smW_enc {w : Wy} (h : smW w) : encW w ≤ 2147483647 ∧ (w ≠ none → encW w < 2000000) := by
  cases w with
  | none => exact ⟨Nat.le_refl _, fun q => absurd rfl q⟩
  | some x =>
    obtain ⟨s, m, k⟩ := x
    obtain ⟨h1, h2, h3, h4⟩ := h s m k rfl
    rw [encW]
    exact ⟨by omega, fun _ => by omega⟩
theorem cth_ok {B : Nat → Wy} {p k : Nat} {ak asc co : Nat → Int32} (hne : ne ≤ 60) (hk : k < ne) (hto : to ≤ 60) (hp : p < to) (hb : bkL ne kd sc ln inn lst) (hA : ak k = kd k) (hS : asc k = nI (sc k)) (hB : ∀ q, p < q → q < to → smW (B q)) (hco : ∀ q, p < q → q < to → co q = nI (encW (B q))) : jf_Chain_costThrough (nI k) (nI (p + ln k)) (nI to) inn lst (nI ne) ak asc co = some (nI (encC (cth kd sc ln tx ask inn lst to B p k) k)) := by
  obtain ⟨b1, b2, b3⟩ := hb k hk
  rw [jf_Chain_costThrough, Book_kindOf_in hk hne, Option.bind_some, Book_strokesOf_in hk hne, Option.bind_some, hA, hS, show jf_Chain_costOf (nI (sc k)) 1 (nI k) = _ from costOf_ok (sc k) 1 k, Option.bind_some]
  unfold cth
  by_cases e1 : p + ln k = to
  · rw [if_pos (by rw [e1]), if_pos e1]
    by_cases e2 : kd k = lst
    · rw [if_pos e2, if_pos e2, encC]
    · rw [if_neg e2, if_neg e2]
      rfl
  · rw [if_neg (p_ne e1 (by omega) (by omega)), if_neg e1]
    by_cases e3 : to < p + ln k
    · rw [if_pos (p_ylt e3 (by omega)), if_pos e3]
      rfl
    · rw [if_neg (p_nlt (by omega) (by omega)), if_neg e3]
      by_cases e4 : kd k = inn
      · have hl := b3 (Or.inl e4)
        have hc := hco (p + ln k) (by omega) (by omega)
        have hsm := hB (p + ln k) (by omega) (by omega)
        rw [if_pos e4, if_pos e4, p_ga (by omega) (by omega), p_cl (by omega), hc]
        cases hw : B (p + ln k) with
        | none =>
          rw [if_pos (show nI (encW none) = 2147483647 from rfl)]
          rfl
        | some w =>
          obtain ⟨s, m, k'⟩ := w
          rw [hw] at hsm
          obtain ⟨s1, s2, s3, s4⟩ := hsm s m k' rfl
          rw [encW, if_neg (show ¬ nI ((s * 64 + m) * 64 + k') = 2147483647 from p_ne (b := 2147483647) (by omega) (by omega) (by omega)), p_ga (by omega) (by omega), p_ga (by omega) (by omega), show (64 : Int32) = nI 64 from rfl, pk_rem (by omega) (by omega) (by omega), nI_add, p_sub (by omega), encC]
          rw [show (sc k * 64 + 1) * 64 + k + ((s * 64 + m) * 64 + k') - ((s * 64 + m) * 64 + k') % 64 = ((sc k + s) * 64 + (1 + m)) * 64 + k by omega]
      · rw [if_neg e4, if_neg e4]
        rfl
theorem letAt_loop {k n p : Nat} {al ax : Nat → Int32} (hne : ne ≤ 60) (hk : k < ne) (hn : n ≤ 16) (hp : p + n ≤ 60) (hX : ∀ i, i < n → ax (16 * k + i) = tx (16 * k + i)) : ∀ (d i g : Nat), i + d = n → d < g → (∀ j, j < i → ask (p + j) = tx (16 * k + j)) → ∃ z, jf_Book_areLettersAt_b28 (nI k) (nI n) (nI p) 60 ask ax g (nI i) = some z ∧ (lets tx ask k n p → z = 1) ∧ (¬ lets tx ask k n p → z = 0) := by
  intro d
  induction d with
  | zero =>
    intro i g hi hg hq
    obtain ⟨g, rfl⟩ : ∃ y, g = y + 1 := ⟨g - 1, by omega⟩
    have hin : i = n := by omega
    subst hin
    refine ⟨1, ?_, fun _ => rfl, fun h => absurd hq h⟩
    rw [jf_Book_areLettersAt_b28, if_pos (p_yle (by omega) (by omega))]
  | succ d ih =>
    intro i g hi hg hq
    obtain ⟨g, rfl⟩ : ∃ y, g = y + 1 := ⟨g - 1, by omega⟩
    rw [jf_Book_areLettersAt_b28, if_neg (p_nle (by omega) (by omega)), nI_add, p_ga (by omega) (by omega), show (16 : Int32) = nI 16 from rfl, pk_mul, nI_add, p_ga (by omega) (by omega), p_cl (by omega), p_cl (by omega), show k * 16 + i = 16 * k + i by omega, hX i (by omega)]
    by_cases he : ask (p + i) = tx (16 * k + i)
    · rw [if_pos he, nI_1]
      exact ih (i + 1) g (by omega) (by omega) (fun j hj => by
        rcases Nat.lt_or_ge j i with w | w
        · exact hq j w
        · rw [show j = i by omega]; exact he)
    · rw [if_neg he]
      exact ⟨0, rfl, fun h => absurd (h i (by omega)) he, fun _ => rfl⟩
theorem letAt_ok {k n p : Nat} {al ax : Nat → Int32} (hN : 100 ≤ N) (hne : ne ≤ 60) (hk : k < ne) (hl : al k = nI (ln k)) (hn : n ≤ ln k) (hl16 : ln k ≤ 16) (hp : p + n ≤ 60) (hX : ∀ i, i < ln k → ax (16 * k + i) = tx (16 * k + i)) : ∃ z, jf_Book_areLettersAt N (nI k) (nI n) (nI p) 60 (nI ne) ask al ax = some z ∧ (lets tx ask k n p → z = 1) ∧ (¬ lets tx ask k n p → z = 0) := by
  obtain ⟨z, z1, z2⟩ := letAt_loop (al := al) hne hk (by omega) hp (fun i hi => hX i (by omega)) n 0 N (by omega) (by omega) (fun j hj => absurd hj (Nat.not_lt_zero j))
  refine ⟨z, ?_, z2⟩
  rw [jf_Book_areLettersAt, Book_lengthOf_in hk hne, hl, Option.bind_some, if_neg (p_nlt hn (by omega)), if_neg (p_n0 (by omega)), p_sub (by omega), if_pos (p_yle (by omega) (by omega))]
  exact z1
/-- one entry more at one place -/
theorem bett_enc {w : Wy} {s m K : Nat} (hw : smW w) (hk : ∀ s m k, w = some (s, m, k) → k < K) (hK : K < 60) (hs : s ≤ 600) (hm : m ≤ 61) : (encW w ≤ (s * 64 + m) * 64 + K → bett w (some (s, m)) K = w) ∧ (¬ encW w ≤ (s * 64 + m) * 64 + K → bett w (some (s, m)) K = some (s, m, K)) := by
  cases w with
  | none => exact ⟨fun h => by rw [encW] at h; omega, fun _ => rfl⟩
  | some x =>
    obtain ⟨s', m', k'⟩ := x
    obtain ⟨h1, h2, h3, h4⟩ := hw s' m' k' rfl
    have h5 := hk s' m' k' rfl
    unfold bett
    dsimp only
    rw [encW]
    constructor
    · intro h
      rw [if_neg (by omega)]
    · intro h
      rw [if_pos (by omega)]
end BW
