/-! entries that run together -/
/-- entries a and b run together: an outline begins by all of a and goes on as b begins -/
def rtg (ne : Nat) (sc : Nat → Nat) (st : Nat → Int32) (a b : Nat) : Prop := ∃ k, k < ne ∧ sc a < sc k ∧ sc k ≤ sc a + sc b ∧ (∀ i, i < sc a → st (5 * a + i) = st (5 * k + i)) ∧ (∀ i, i < sc k - sc a → st (5 * b + i) = st (5 * k + (sc a + i)))
section RU
variable {ne : Nat} {sc : Nat → Nat} {st row : Nat → Int32}
/-- an outline that is read alone is its own entry -/
theorem RD_alone {k n : Nat} (hd : dst ne sc st) (h5 : ∀ k, k < ne → sc k ≤ 5) (hk : k < ne) (hn : 0 < n) (hm : mt sc st row 0 n k) : RD ne sc st row n = [(0, some k)] := by
  obtain ⟨i, rfl⟩ : ∃ i, n = i + 1 := ⟨n - 1, by omega⟩
  have hs := hm.1
  have hB : bestE ne sc st row i ne (i + 1) (some k) := by
    right
    refine ⟨k, rfl, hk, hm.1.symm, ⟨⟨0, sts_zero i, by omega⟩, by rw [hm.1, Nat.sub_self]; exact hm⟩, fun k' hk' hE => ?_⟩
    obtain ⟨⟨x, hx, e⟩, -⟩ := hE
    omega
  obtain ⟨f, hf, hR, -, h2⟩ := top_ok hd h5 hB
  obtain ⟨-, e⟩ := h2 (by simp)
  have e0 : f = 0 := by omega
  subst e0
  rw [hR, RD]
theorem RD_step {m f : Nat} {e : Option Nat} (h : RD ne sc st row (m + 1) = (f, e) :: RD ne sc st row f) : f ∈ sts ne sc st row m ∧ ∀ k, e = some k → mt sc st row f (m + 1 - f) k := by
  have hS : RD ne sc st row (m + 1) = stp ne sc st row m (RD ne sc st row m) := by rw [RD]
  rw [h, stp] at hS
  cases hp : pk5 ne sc st row m (RD ne sc st row m) with
  | none =>
    rw [hp] at hS
    dsimp only at hS
    injection hS with ha hb
    injection ha with hc hd
    subst hc
    refine ⟨sts_self, fun k hk => ?_⟩
    rw [hk] at hd
    rw [show f + 1 - f = 1 by omega]
    exact (ent_s hd.symm).2
  | some r =>
    obtain ⟨r1, r2, r3⟩ := r
    rw [hp] at hS
    dsimp only at hS
    injection hS with ha hb
    injection ha with hc hd
    obtain ⟨⟨l1, e', hl⟩, he, -⟩ := pk5_in _ hp
    subst hc
    refine ⟨List.mem_cons_of_mem _ (List.mem_map.mpr ⟨(f, e'), by rw [hl]; exact List.mem_append_right _ List.mem_cons_self, rfl⟩), fun k hk => ?_⟩
    rw [hk] at hd
    injection hd with hk3
    rw [hk3]
    exact (ent_s he).2
theorem sts_down {m x : Nat} (h : x ∈ sts ne sc st row (m + 1)) (hx : x ≤ m) : x ∈ sts ne sc st row m := by
  obtain ⟨f, e, hf, hR⟩ := RD_top (ne := ne) (sc := sc) (st := st) (row := row) (n := m + 1) (by omega)
  rw [sts_c hR] at h
  rcases List.mem_cons.mp h with q | q
  · omega
  · exact sts_trans m f x (RD_step hR).1 q
theorem sts_downs {m x : Nat} (hx : x ≤ m) : ∀ d : Nat, x ∈ sts ne sc st row (m + d) → x ∈ sts ne sc st row m := by
  intro d
  induction d with
  | zero => intro h; exact h
  | succ d ih => intro h; exact ih (sts_down (m := m + d) h (by omega))
theorem RD_nil {n : Nat} (h : RD ne sc st row n = []) : n = 0 := by
  rcases Nat.eq_zero_or_pos n with h0 | h0
  · exact h0
  · obtain ⟨f, e, hf, hR⟩ := RD_top (ne := ne) (sc := sc) (st := st) (row := row) h0
    rw [hR] at h
    cases h
/-- two outlines, one behind the other -/
theorem rd_two {a b : Nat} (hd : dst ne sc st) (h5 : ∀ k, k < ne → 1 ≤ sc k ∧ sc k ≤ 5) (ha : a < ne) (hb : b < ne) (r1 : ∀ i, i < sc a → row i = st (5 * a + i)) (r2 : ∀ i, i < sc b → row (sc a + i) = st (5 * b + i)) : (¬ rtg ne sc st a b → (RD ne sc st row (sc a + sc b)).map Prod.snd = [some b, some a]) ∧ (rtg ne sc st a b → ¬ (RD ne sc st row (sc a + sc b)).map Prod.snd = [some b, some a]) := by
  have h5' : ∀ k, k < ne → sc k ≤ 5 := fun k hk => (h5 k hk).2
  have ha1 := (h5 a ha).1
  have hb1 := (h5 b hb).1
  have hA : RD ne sc st row (sc a) = [(0, some a)] := RD_alone hd h5' ha ha1 ⟨rfl, fun i hi => by rw [Nat.zero_add]; exact (r1 i hi).symm⟩
  have hsA : sts ne sc st row (sc a) = [sc a, 0] := by unfold sts; rw [hA]; rfl
  refine ⟨fun hno => ?_, fun hyes hq => ?_⟩
  · have hno' : ∀ k, k < ne → ∀ j, 1 ≤ j → j ≤ sc b → ¬ mt sc st row 0 (sc a + j) k := by
      intro k hk j hj1 hj2 hm
      obtain ⟨m1, m2⟩ := hm
      refine hno ⟨k, hk, by omega, by omega, fun i hi => ?_, fun i hi => ?_⟩
      · rw [m2 i (by omega), Nat.zero_add, r1 i hi]
      · rw [m2 (sc a + i) (by omega), Nat.zero_add, r2 i (by omega)]
    have lemA : ∀ j, j ≤ sc b → sc a ∈ sts ne sc st row (sc a + j) := by
      intro j
      induction j with
      | zero => intro _; exact sts_self
      | succ j ih =>
        intro hj
        have ih' := ih (by omega)
        obtain ⟨f, e, hf, hR⟩ := RD_top (ne := ne) (sc := sc) (st := st) (row := row) (n := sc a + j + 1) (by omega)
        obtain ⟨s1, s2⟩ := RD_step hR
        rw [show sc a + (j + 1) = sc a + j + 1 by omega, sts_c hR]
        refine List.mem_cons_of_mem _ ?_
        rcases Nat.lt_or_ge f (sc a) with q | q
        · have hf0 := sts_split (sc a + j) (sc a) f ih' s1 (by omega)
          rw [hsA] at hf0
          have f0 : f = 0 := by
            rcases List.mem_cons.mp hf0 with z | z
            · omega
            · exact List.mem_singleton.mp z
          subst f0
          cases e with
          | none =>
            have := RD_raw hR
            omega
          | some k =>
            have hm := s2 k rfl
            exact absurd hm (hno' k (RD_ent hR) (j + 1) (by omega) hj)
        · exact sts_split (sc a + j) f (sc a) s1 ih' q
    obtain ⟨i, hi⟩ : ∃ i, sc a + sc b = i + 1 := ⟨sc a + sc b - 1, by omega⟩
    have hin : sc a ∈ sts ne sc st row i := by
      have := lemA (sc b - 1) (by omega)
      rw [show sc a + (sc b - 1) = i by omega] at this
      exact this
    have hB : bestE ne sc st row i ne (sc b) (some b) := by
      right
      refine ⟨b, rfl, hb, rfl, ⟨⟨sc a, hin, by omega⟩, ?_⟩, fun k hk hE => ?_⟩
      · rw [show i + 1 - sc b = sc a by omega]
        exact ⟨rfl, fun j hj => (r2 j hj).symm⟩
      · obtain ⟨⟨x, hx, e⟩, hm⟩ := hE
        rcases Nat.lt_or_ge x (sc a) with q | q
        · have hx0 := sts_split i (sc a) x hin hx (by omega)
          rw [hsA] at hx0
          have x0 : x = 0 := by
            rcases List.mem_cons.mp hx0 with z | z
            · omega
            · exact List.mem_singleton.mp z
          rw [show i + 1 - sc k = 0 by omega, show sc k = sc a + sc b by omega] at hm
          exact absurd hm (hno' k hk (sc b) hb1 (Nat.le_refl _))
        · omega
    obtain ⟨f, hf, hR, -, h2⟩ := top_ok hd h5' hB
    obtain ⟨-, e⟩ := h2 (by simp)
    have e0 : f = sc a := by omega
    subst e0
    rw [hi, hR, hA]
    rfl
  · obtain ⟨k, hk, k1, k2, k3, k4⟩ := hyes
    have hK : RD ne sc st row (sc k) = [(0, some k)] := by
      refine RD_alone hd h5' hk (by omega) ⟨rfl, fun i hi => ?_⟩
      rw [Nat.zero_add]
      rcases Nat.lt_or_ge i (sc a) with q | q
      · rw [r1 i q, k3 i q]
      · obtain ⟨j, rfl⟩ : ∃ j, i = sc a + j := ⟨i - sc a, by omega⟩
        rw [r2 j (by omega), k4 j (by omega)]
    have hsK : sts ne sc st row (sc k) = [sc k, 0] := by unfold sts; rw [hK]; rfl
    obtain ⟨f, e, hf, hR⟩ := RD_top (ne := ne) (sc := sc) (st := st) (row := row) (n := sc a + sc b) (by omega)
    rw [hR, List.map_cons] at hq
    injection hq with q1 q2
    have hf0 : 0 < f := by
      rcases Nat.eq_zero_or_pos f with z | z
      · subst z
        rw [RD] at q2
        cases q2
      · exact z
    obtain ⟨f2, e2, hf2, hR2⟩ := RD_top (ne := ne) (sc := sc) (st := st) (row := row) hf0
    rw [hR2, List.map_cons] at q2
    injection q2 with q3 q4
    have hz := RD_nil (List.map_eq_nil_iff.mp q4)
    subst hz
    obtain ⟨f', rfl⟩ : ∃ y, f = y + 1 := ⟨f - 1, by omega⟩
    have hm := (RD_step hR2).2 a q3
    have hfa : f' + 1 = sc a := by rw [hm.1]; omega
    have hin : sc a ∈ sts ne sc st row (sc a + sc b) := by
      rw [sts_c hR, hfa]
      exact List.mem_cons_of_mem _ sts_self
    have hin2 := sts_downs (m := sc k) (x := sc a) (by omega) (sc a + sc b - sc k) (by rw [show sc k + (sc a + sc b - sc k) = sc a + sc b by omega]; exact hin)
    rw [hsK] at hin2
    rcases List.mem_cons.mp hin2 with z | z
    · omega
    · have := List.mem_singleton.mp z
      omega
end RU
