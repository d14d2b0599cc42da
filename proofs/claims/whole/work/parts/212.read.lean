/-! how strokes are read: the stack of translations, the last one first -/
/-- the entry whose outline stands in the row from f on, n strokes -/
noncomputable def ent (ne : Nat) (sc : Nat → Nat) (st row : Nat → Int32) (f n : Nat) : Option Nat := by
  classical exact if h : ∃ k, k < ne ∧ mt sc st row f n k then some (Classical.choose h) else none
theorem ent_s {ne : Nat} {sc : Nat → Nat} {st row : Nat → Int32} {f n k : Nat} (h : ent ne sc st row f n = some k) : k < ne ∧ mt sc st row f n k := by
  unfold ent at h
  split at h
  · rename_i hx
    cases h
    exact Classical.choose_spec hx
  · cases h
theorem ent_n {ne : Nat} {sc : Nat → Nat} {st row : Nat → Int32} {f n : Nat} (h : ent ne sc st row f n = none) : ∀ k, k < ne → ¬ mt sc st row f n k := by
  unfold ent at h
  split at h
  · cases h
  · rename_i hx
    exact fun k hk hm => hx ⟨k, hk, hm⟩
/-- no two entries have one outline -/
def dst (ne : Nat) (sc : Nat → Nat) (st : Nat → Int32) : Prop := ∀ a b, a < ne → b < ne → sc a = sc b → (∀ i, i < sc a → st (5 * a + i) = st (5 * b + i)) → a = b
theorem mt_one {ne : Nat} {sc : Nat → Nat} {st row : Nat → Int32} {f n a b : Nat} (hd : dst ne sc st) (ha : a < ne) (hb : b < ne) (h1 : mt sc st row f n a) (h2 : mt sc st row f n b) : a = b := by
  refine hd a b ha hb (by rw [h1.1, h2.1]) (fun i hi => ?_)
  rw [h1.1] at hi
  rw [h1.2 i hi, h2.2 i hi]
theorem ent_is {ne : Nat} {sc : Nat → Nat} {st row : Nat → Int32} {f n k : Nat} (hd : dst ne sc st) (hk : k < ne) (h : mt sc st row f n k) : ent ne sc st row f n = some k := by
  cases e : ent ne sc st row f n with
  | none => exact absurd h (ent_n e k hk)
  | some j =>
    obtain ⟨h1, h2⟩ := ent_s e
    rw [mt_one hd h1 hk h2 h]
section RD
variable (ne : Nat) (sc : Nat → Nat) (st row : Nat → Int32)
/-- the longest outline that begins where one of these translations begins -/
noncomputable def pk5 (s : Nat) : List (Nat × Option Nat) → Option (List (Nat × Option Nat) × Nat × Nat)
  | [] => none
  | (f, _) :: rest => if 5 < s + 1 - f then none else match pk5 s rest with
    | some r => some r
    | none => match ent ne sc st row f (s + 1 - f) with
      | some k => some (rest, f, k)
      | none => none
noncomputable def stp (s : Nat) (l : List (Nat × Option Nat)) : List (Nat × Option Nat) := match pk5 ne sc st row s l with
  | some (rest, f, k) => (f, some k) :: rest
  | none => (s, ent ne sc st row s 1) :: l
/-- the translations behind s strokes -/
noncomputable def RD : Nat → List (Nat × Option Nat)
  | 0 => []
  | s + 1 => stp ne sc st row s (RD s)
end RD
theorem pk5_in {ne : Nat} {sc : Nat → Nat} {st row : Nat → Int32} {s : Nat} : ∀ (l : List (Nat × Option Nat)) {rest : List (Nat × Option Nat)} {f k : Nat}, pk5 ne sc st row s l = some (rest, f, k) → (∃ (l1 : List (Nat × Option Nat)) (e : Option Nat), l = l1 ++ (f, e) :: rest) ∧ ent ne sc st row f (s + 1 - f) = some k ∧ ¬ 5 < s + 1 - f := by
  intro l
  induction l with
  | nil => intro rest f k h; rw [pk5] at h; cases h
  | cons q l ih =>
    intro rest f k h
    obtain ⟨f0, e0⟩ := q
    rw [pk5] at h
    by_cases h5 : 5 < s + 1 - f0
    · rw [if_pos h5] at h; cases h
    · rw [if_neg h5] at h
      cases hp : pk5 ne sc st row s l with
      | some r =>
        obtain ⟨r1, r2, r3⟩ := r
        rw [hp] at h
        dsimp only at h
        cases h
        obtain ⟨⟨l1, e, hl⟩, h2, h3⟩ := ih hp
        exact ⟨⟨(f0, e0) :: l1, e, by rw [hl]; rfl⟩, h2, h3⟩
      | none =>
        rw [hp] at h
        dsimp only at h
        cases he : ent ne sc st row f0 (s + 1 - f0) with
        | none => rw [he] at h; cases h
        | some k0 =>
          rw [he] at h
          cases h
          exact ⟨⟨[], e0, rfl⟩, he, h5⟩
/-- a stack is its last translation on the stack ahead of that one's first stroke -/
theorem RD_c {ne : Nat} {sc : Nat → Nat} {st row : Nat → Int32} : ∀ (n : Nat), (∀ m, m ≤ n → m = 0 ∨ ∃ f e, f < m ∧ RD ne sc st row m = (f, e) :: RD ne sc st row f) := by
  intro n
  induction n with
  | zero => intro m hm; exact Or.inl (by omega)
  | succ n ih =>
    intro m hm
    rcases Nat.lt_or_ge m (n + 1) with q | q
    · exact ih m (by omega)
    · have : m = n + 1 := by omega
      subst this
      right
      -- every tail of RD m, m ≤ n, is RD of the first stroke ahead of it
      have tl : ∀ (m : Nat), m ≤ n → ∀ (l1 rest : List (Nat × Option Nat)) (f : Nat) (e : Option Nat), RD ne sc st row m = l1 ++ (f, e) :: rest → rest = RD ne sc st row f ∧ f < m := by
        intro m
        induction m using Nat.strongRecOn with
        | _ m ihm =>
          intro hmn l1 rest f e h
          rcases ih m hmn with h0 | ⟨f1, e1, hf1, h1⟩
          · subst h0
            rw [RD] at h
            exact absurd h (by simp)
          · rw [h1] at h
            cases l1 with
            | nil =>
              rw [List.nil_append] at h
              injection h with ha hb
              injection ha with hc hd
              subst hc
              exact ⟨hb.symm, hf1⟩
            | cons q l1 =>
              rw [List.cons_append] at h
              injection h with ha hb
              obtain ⟨r1, r2⟩ := ihm f1 hf1 (by omega) l1 rest f e hb
              exact ⟨r1, by omega⟩
      rw [RD, stp]
      cases hp : pk5 ne sc st row n (RD ne sc st row n) with
      | none => exact ⟨n, _, by omega, rfl⟩
      | some r =>
        obtain ⟨r1, r2, r3⟩ := r
        obtain ⟨⟨l1, e, hl⟩, -, -⟩ := pk5_in _ hp
        obtain ⟨e1, e2⟩ := tl n (Nat.le_refl n) l1 r1 r2 e hl
        exact ⟨r2, some r3, by omega, by rw [e1]⟩
theorem RD_f {ne : Nat} {sc : Nat → Nat} {st row : Nat → Int32} : ∀ (n : Nat) {q : Nat × Option Nat}, q ∈ RD ne sc st row n → q.1 < n := by
  intro n
  induction n using Nat.strongRecOn with
  | _ n ih =>
    intro q hq
    rcases RD_c (ne := ne) (sc := sc) (st := st) (row := row) n n (Nat.le_refl n) with h0 | ⟨f, e, hf, h⟩
    · subst h0
      rw [RD] at hq
      cases hq
    · rw [h] at hq
      rcases List.mem_cons.mp hq with e1 | e1
      · rw [e1]; exact hf
      · have := ih f hf e1
        omega
theorem RD_len {ne : Nat} {sc : Nat → Nat} {st row : Nat → Int32} : ∀ (n : Nat), (RD ne sc st row n).length ≤ n := by
  intro n
  induction n using Nat.strongRecOn with
  | _ n ih =>
    rcases RD_c (ne := ne) (sc := sc) (st := st) (row := row) n n (Nat.le_refl n) with h0 | ⟨f, e, hf, h⟩
    · subst h0
      rw [RD]
      exact Nat.le_refl 0
    · rw [h, List.length_cons]
      have := ih f hf
      omega
def oI (o : Option Nat) : Int32 := match o with
  | none => -1
  | some k => nI k
/-- two rows hold a stack: a translation stands at the number of those ahead of it -/
def stk (fa ea : Nat → Int32) : List (Nat × Option Nat) → Prop
  | [] => True
  | (f, e) :: rest => fa rest.length = nI f ∧ ea rest.length = oI e ∧ stk fa ea rest
theorem stk_cong {fa ea fa' ea' : Nat → Int32} : ∀ (l : List (Nat × Option Nat)), stk fa ea l → (∀ t, t < l.length → fa' t = fa t ∧ ea' t = ea t) → stk fa' ea' l := by
  intro l
  induction l with
  | nil => intro _ _; trivial
  | cons q l ih =>
    intro h hc
    obtain ⟨f, e⟩ := q
    obtain ⟨h1, h2, h3⟩ := h
    obtain ⟨c1, c2⟩ := hc l.length (by rw [List.length_cons]; omega)
    exact ⟨by rw [c1]; exact h1, by rw [c2]; exact h2, ih h3 (fun t ht => hc t (by rw [List.length_cons]; omega))⟩
theorem stk_tail {fa ea : Nat → Int32} : ∀ (l1 : List (Nat × Option Nat)) {l : List (Nat × Option Nat)}, stk fa ea (l1 ++ l) → stk fa ea l := by
  intro l1
  induction l1 with
  | nil => intro l h; exact h
  | cons q l1 ih =>
    intro l h
    obtain ⟨f, e⟩ := q
    exact ih h.2.2
