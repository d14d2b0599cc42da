/-! the class reads -/
theorem orb : ∀ m, m < 64 → ∀ n, n < 6 → nI m ||| ((1 : Int32) <<< (nI n &&& 31)) = nI (m ||| 2 ^ n) ∧ (m ||| 2 ^ n) < 64 ∧ (((nI m >>> (nI n &&& 31)) &&& 1 = 1) ↔ m.testBit n = true) := by decide +kernel
theorem p_sub1 {i n : Nat} (h : n ≤ i + 1) : nI i - nI n + 1 = nI (i + 1 - n) := by
  rw [← p_sub h, ← nI_1, Int32.sub_eq_add_neg, Int32.sub_eq_add_neg, Int32.add_assoc, Int32.add_assoc, Int32.add_comm (-nI n) 1]
section CR
variable {ne : Nat} {sc : Nat → Nat} {st row : Nat → Int32}
/-- where a translation that ends with stroke i may begin -/
noncomputable def sts (ne : Nat) (sc : Nat → Nat) (st row : Nat → Int32) (c : Nat) : List Nat := c :: (RD ne sc st row c).map Prod.fst
def inCh (ne : Nat) (sc : Nat → Nat) (st row : Nat → Int32) (i n : Nat) : Prop := ∃ x, x ∈ sts ne sc st row i ∧ i + 1 - x = n
/-- what the rows of the class hold of the first q strokes -/
def rdI (ne : Nat) (sc : Nat → Nat) (st row : Nat → Int32) (q : Nat) (fa ea : Nat → Int32) : Prop := ∀ j, j < q → ∃ f e, f ≤ j ∧ RD ne sc st row (j + 1) = (f, e) :: RD ne sc st row f ∧ fa j = nI f ∧ ea j = oI e
theorem sts_le {c x : Nat} (h : x ∈ sts ne sc st row c) : x ≤ c := by
  unfold sts at h
  rcases List.mem_cons.mp h with e | e
  · omega
  · obtain ⟨q, hq, rfl⟩ := List.mem_map.mp e
    have := RD_f c hq
    omega
theorem len_loop {i : Nat} {fa ea : Nat → Int32} (hi : i < 300) (hI : rdI ne sc st row i fa ea) : ∀ (d n c m g : Nat), n + d = 6 → c ≤ i → n ≤ i + 1 - c → m < 64 → d < g → ∃ m', jf_Reading_lengthsAt_b7 (nI i) fa g (nI m) (nI c) (nI n) = some (nI m') ∧ m' < 64 ∧ ∀ n', n' < 6 → (m'.testBit n' = true ↔ m.testBit n' = true ∨ (n ≤ n' ∧ ∃ x, x ∈ sts ne sc st row c ∧ i + 1 - x = n')) := by
  intro d
  induction d with
  | zero =>
    intro n c m g hn hc hl hm hg
    obtain ⟨g, rfl⟩ : ∃ z, g = z + 1 := ⟨g - 1, by omega⟩
    refine ⟨m, ?_, hm, fun n' h' => ⟨Or.inl, fun q => ?_⟩⟩
    · rw [jf_Reading_lengthsAt_b7, if_pos (by rw [p_lit 5]; exact p_ylt (by omega) (by omega))]
    · rcases q with q | q
      · exact q
      · omega
  | succ d ih =>
    intro n c m g hn hc hl hm hg
    obtain ⟨g, rfl⟩ : ∃ z, g = z + 1 := ⟨g - 1, by omega⟩
    obtain ⟨o1, o2, -⟩ := orb m hm n (by omega)
    have h0 : jf_Reading_lengthsAt_b7 (nI i) fa (g + 1) (nI m) (nI c) (nI n) = if i + 1 - c = n then (if nI c ≤ 0 then jf_Reading_lengthsAt_b7 (nI i) fa g (nI (m ||| 2 ^ n)) (-1) (nI (n + 1)) else jga (nI c - 1) 300 (jf_Reading_lengthsAt_b7 (nI i) fa g (nI (m ||| 2 ^ n)) (fa (nI c - 1).toNatClampNeg) (nI (n + 1)))) else jf_Reading_lengthsAt_b7 (nI i) fa g (nI m) (nI c) (nI (n + 1)) := by
      rw [jf_Reading_lengthsAt_b7, if_neg (by rw [p_lit 5]; exact p_nlt (by omega) (by omega)), if_neg (p_n0 (by omega)), p_sub1 (by omega)]
      by_cases e : i + 1 - c = n
      · rw [if_pos (by rw [e]), if_pos e, o1]
        simp only [jf_Reading_lengthsAt_b50, jf_Reading_lengthsAt_b51, nI_1]
      · rw [if_neg (p_ne e (by omega) (by omega)), if_neg e, jf_Reading_lengthsAt_b51, nI_1]
    rw [h0]
    by_cases e : i + 1 - c = n
    · rw [if_pos e]
      have hbit : ∀ n', (m ||| 2 ^ n).testBit n' = true ↔ m.testBit n' = true ∨ n' = n := by
        intro n'
        rw [Nat.testBit_or, Bool.or_eq_true, Nat.testBit_two_pow]
        rw [decide_eq_true_iff]
        exact ⟨fun q => q.imp id Eq.symm, fun q => q.imp id Eq.symm⟩
      by_cases hc0 : c = 0
      · subst hc0
        obtain ⟨g, rfl⟩ : ∃ z, g = z + 1 := ⟨g - 1, by omega⟩
        refine ⟨m ||| 2 ^ n, ?_, o2, fun n' h' => ?_⟩
        · rw [if_pos (by decide), jf_Reading_lengthsAt_b7]
          by_cases h5 : (5 : Int32) < nI (n + 1)
          · rw [if_pos h5]
          · rw [if_neg h5, if_pos (by decide)]
        · rw [hbit n']
          constructor
          · rintro (q | q)
            · exact Or.inl q
            · exact Or.inr ⟨by omega, 0, List.mem_cons_self, by omega⟩
          · rintro (q | ⟨q1, x, q2, q3⟩)
            · exact Or.inl q
            · have := sts_le q2
              exact Or.inr (by omega)
      · obtain ⟨f, e1, hf, hR, hfa, -⟩ := hI (c - 1) (by omega)
        rw [show c - 1 + 1 = c by omega] at hR
        obtain ⟨m', h1, h2, h3⟩ := ih (n + 1) f (m ||| 2 ^ n) g (by omega) (by omega) (by omega) o2 (by omega)
        refine ⟨m', ?_, h2, fun n' h' => ?_⟩
        · rw [if_neg (show ¬ nI c ≤ 0 from p_nle (b := 0) (by omega) (by omega)), p_s1 (by omega), p_ga (by omega) (by omega), p_cl (by omega), hfa]
          exact h1
        · rw [h3 n' h', hbit n']
          have hsts : ∀ x, x ∈ sts ne sc st row c ↔ x = c ∨ x ∈ sts ne sc st row f := by
            intro x
            unfold sts
            rw [hR, List.map_cons, List.mem_cons]
          constructor
          · rintro ((q | q) | ⟨q1, x, q2, q3⟩)
            · exact Or.inl q
            · exact Or.inr ⟨by omega, c, (hsts c).mpr (Or.inl rfl), by omega⟩
            · exact Or.inr ⟨by omega, x, (hsts x).mpr (Or.inr q2), q3⟩
          · rintro (q | ⟨q1, x, q2, q3⟩)
            · exact Or.inl (Or.inl q)
            · rcases (hsts x).mp q2 with q | q
              · exact Or.inl (Or.inr (by omega))
              · have := sts_le q
                exact Or.inr ⟨by omega, x, q, q3⟩
    · rw [if_neg e]
      obtain ⟨m', h1, h2, h3⟩ := ih (n + 1) c m g (by omega) hc (by omega) hm (by omega)
      refine ⟨m', h1, h2, fun n' h' => ?_⟩
      rw [h3 n' h']
      constructor
      · rintro (q | ⟨q1, x, q2, q3⟩)
        · exact Or.inl q
        · exact Or.inr ⟨by omega, x, q2, q3⟩
      · rintro (q | ⟨q1, x, q2, q3⟩)
        · exact Or.inl q
        · have := sts_le q2
          exact Or.inr ⟨by omega, x, q2, q3⟩
theorem lengthsAt_ok {N i : Nat} {fa ea : Nat → Int32} (hN : 7 ≤ N) (hi : i < 300) (hI : rdI ne sc st row i fa ea) : ∃ m, jf_Reading_lengthsAt N (nI i) fa = some (nI m) ∧ m < 64 ∧ ∀ n, 1 ≤ n → n < 6 → (m.testBit n = true ↔ inCh ne sc st row i n) := by
  obtain ⟨m, h1, h2, h3⟩ := len_loop hi hI 5 1 i 0 N (by omega) (Nat.le_refl i) (by omega) (by omega) (by omega)
  refine ⟨m, h1, h2, fun n q1 q2 => ?_⟩
  rw [h3 n q2]
  constructor
  · rintro (q | q)
    · rw [Nat.zero_testBit] at q; cases q
    · exact q.2
  · intro q
    exact Or.inr ⟨q1, q⟩
/-- entry k may end at stroke i -/
def mayE (ne : Nat) (sc : Nat → Nat) (st row : Nat → Int32) (i k : Nat) : Prop := inCh ne sc st row i (sc k) ∧ mt sc st row (i + 1 - sc k) (sc k) k
/-- the longest one among the first K entries -/
def bestE (ne : Nat) (sc : Nat → Nat) (st row : Nat → Int32) (i K l : Nat) (t : Option Nat) : Prop := (t = none ∧ l = 0 ∧ ∀ k, k < K → ¬ mayE ne sc st row i k) ∨ ∃ k0, t = some k0 ∧ k0 < K ∧ l = sc k0 ∧ mayE ne sc st row i k0 ∧ ∀ k, k < K → mayE ne sc st row i k → sc k ≤ l
theorem rs_loop {N i m : Nat} {asc ast : Nat → Int32} {ea fa : Nat → Int32} (hN : 70 ≤ N) (hne : ne ≤ 60) (hi : i < 300) (hs : ∀ k, k < ne → asc k = nI (sc k) ∧ 1 ≤ sc k ∧ sc k ≤ 5 ∧ ∀ j, j < sc k → ast (5 * k + j) = st (5 * k + j)) (hm : m < 64) (hmb : ∀ n, 1 ≤ n → n < 6 → (m.testBit n = true ↔ inCh ne sc st row i n)) : ∀ (d k l : Nat) (t : Option Nat) (g : Nat), k + d = ne → d < g → l ≤ 5 → bestE ne sc st row i k l t → ∃ l' t', jf_Reading_readStroke_b14 N (nI i) (nI ne) asc ast row g (nI m) (nI l) (oI t) (nI k) ea fa = jf_Reading_readStroke_b100 (nI i) (nI l') (oI t') ea fa ∧ l' ≤ 5 ∧ bestE ne sc st row i ne l' t' := by
  intro d
  induction d with
  | zero =>
    intro k l t g hk hg hl hB
    obtain ⟨g, rfl⟩ : ∃ z, g = z + 1 := ⟨g - 1, by omega⟩
    have : k = ne := by omega
    subst this
    exact ⟨l, t, by rw [jf_Reading_readStroke_b14, jf_Book_size, Option.bind_some, if_pos (p_yle (Nat.le_refl _) (by omega))], hl, hB⟩
  | succ d ih =>
    intro k l t g hk hg hl hB
    obtain ⟨g, rfl⟩ : ∃ z, g = z + 1 := ⟨g - 1, by omega⟩
    obtain ⟨s1, s2, s3, s4⟩ := hs k (by omega)
    obtain ⟨-, -, o3⟩ := orb m hm (sc k) (by omega)
    have hno : ∀ _ : ¬ (l < sc k ∧ mayE ne sc st row i k), bestE ne sc st row i (k + 1) l t := by
      intro hn
      rcases hB with ⟨b1, b2, b3⟩ | ⟨k0, b1, b2, b3, b4, b5⟩
      · refine Or.inl ⟨b1, b2, fun k' hk' => ?_⟩
        by_cases e : k' = k
        · subst e; exact fun q => hn ⟨by omega, q⟩
        · exact b3 k' (by omega)
      · refine Or.inr ⟨k0, b1, by omega, b3, b4, fun k' hk' q => ?_⟩
        by_cases e : k' = k
        · subst e
          rcases Nat.lt_or_ge l (sc k') with z | z
          · exact absurd ⟨z, q⟩ hn
          · exact z
        · exact b5 k' (by omega) q
    have e0 : jf_Reading_readStroke_b14 N (nI i) (nI ne) asc ast row (g + 1) (nI m) (nI l) (oI t) (nI k) ea fa = if l < sc k ∧ m.testBit (sc k) = true then (jf_Book_isOutlineAt N (nI k) (nI i - nI (sc k) + 1) 300 (nI ne) row asc ast).bind (fun r81 => if r81 = 0 then jf_Reading_readStroke_b14 N (nI i) (nI ne) asc ast row g (nI m) (nI l) (oI t) (nI (k + 1)) ea fa else jf_Reading_readStroke_b14 N (nI i) (nI ne) asc ast row g (nI m) (nI (sc k)) (nI k) (nI (k + 1)) ea fa) else jf_Reading_readStroke_b14 N (nI i) (nI ne) asc ast row g (nI m) (nI l) (oI t) (nI (k + 1)) ea fa := by
      rw [jf_Reading_readStroke_b14, jf_Book_size, Option.bind_some, if_neg (p_nle (by omega) (by omega)), Book_strokesOf_in (by omega) hne, Option.bind_some, s1]
      by_cases hls : l < sc k
      · rw [if_neg (p_nle hls (by omega))]
        by_cases hb : m.testBit (sc k) = true
        · rw [if_pos (o3.mpr hb), if_pos ⟨hls, hb⟩, jf_Reading_readStroke_b58, if_neg (by decide)]
          simp only [jf_Reading_readStroke_b94, nI_1]
        · rw [if_neg (fun q => hb (o3.mp q)), if_neg (fun q => hb q.2), jf_Reading_readStroke_b57, jf_Reading_readStroke_b58, if_pos rfl, jf_Reading_readStroke_b94, nI_1]
      · rw [if_pos (p_yle (by omega) (by omega)), if_neg (fun q => hls q.1), jf_Reading_readStroke_b57, jf_Reading_readStroke_b58, if_pos rfl, jf_Reading_readStroke_b94, nI_1]
    rw [e0]
    by_cases hc : l < sc k ∧ m.testBit (sc k) = true
    · rw [if_pos hc]
      have hin := (hmb (sc k) s2 (by omega)).mp hc.2
      obtain ⟨x, hx1, hx2⟩ := id hin
      have hxi := sts_le hx1
      rw [p_sub1 (by omega)]
      by_cases hmt : mt sc st row (i + 1 - sc k) (sc k) k
      · rw [isOutlineAt_y (n := sc k) (by omega) (by omega) hne s1 s3 (by omega) (by omega) (fun j hj => by rw [s4 j hj]; exact (hmt.2 j hj).symm), Option.bind_some, if_neg (by decide)]
        exact ih (k + 1) (sc k) (some k) g (by omega) (by omega) s3 (Or.inr ⟨k, rfl, by omega, rfl, ⟨hin, hmt⟩, fun k' hk' q => by
          by_cases e : k' = k
          · subst e; exact Nat.le_refl _
          · rcases hB with ⟨b1, b2, b3⟩ | ⟨k0, b1, b2, b3, b4, b5⟩
            · exact absurd q (b3 k' (by omega))
            · have := b5 k' (by omega) q
              omega⟩)
      · rw [isOutlineAt_n (n := sc k) (by omega) (by omega) hne s1 s3 (by omega) (by omega) (fun hj => hmt ⟨rfl, fun j hj2 => by rw [← s4 j hj2]; exact (hj j hj2).symm⟩), Option.bind_some, if_pos rfl]
        exact ih (k + 1) l t g (by omega) (by omega) hl (hno (fun q => hmt q.2.2))
    · rw [if_neg hc]
      refine ih (k + 1) l t g (by omega) (by omega) hl (hno (fun q => hc ⟨q.1, (hmb (sc k) s2 (by omega)).mpr q.2.1⟩))
end CR
