/-! the class reads as RD does -/
section CR2
variable {ne : Nat} {sc : Nat → Nat} {st row : Nat → Int32}
theorem pk5_big {s f : Nat} {e : Option Nat} {l : List (Nat × Option Nat)} (h : 5 < s + 1 - f) : pk5 ne sc st row s ((f, e) :: l) = none := by
  rw [pk5, if_pos h]
theorem pk5_deep {s f : Nat} {e : Option Nat} {l : List (Nat × Option Nat)} {r : List (Nat × Option Nat) × Nat × Nat} (h : ¬ 5 < s + 1 - f) (hp : pk5 ne sc st row s l = some r) : pk5 ne sc st row s ((f, e) :: l) = some r := by
  rw [pk5, if_neg h, hp]
theorem pk5_here {s f k : Nat} {e : Option Nat} {l : List (Nat × Option Nat)} (h : ¬ 5 < s + 1 - f) (hp : pk5 ne sc st row s l = none) (he : ent ne sc st row f (s + 1 - f) = some k) : pk5 ne sc st row s ((f, e) :: l) = some (l, f, k) := by
  rw [pk5, if_neg h, hp, he]
theorem pk5_not {s f : Nat} {e : Option Nat} {l : List (Nat × Option Nat)} (h : ¬ 5 < s + 1 - f) (hp : pk5 ne sc st row s l = none) (he : ent ne sc st row f (s + 1 - f) = none) : pk5 ne sc st row s ((f, e) :: l) = none := by
  rw [pk5, if_neg h, hp, he]
/-- of a list whose first strokes fall, pk5 finds the one that begins first -/
theorem pk5_maxL {s : Nat} : ∀ (l : List (Nat × Option Nat)), l.Pairwise (fun a b => b.1 < a.1) → (pk5 ne sc st row s l = none → ∀ f e, (f, e) ∈ l → s + 1 - f ≤ 5 → ent ne sc st row f (s + 1 - f) = none) ∧ (∀ rest f1 k, pk5 ne sc st row s l = some (rest, f1, k) → ∀ f e, (f, e) ∈ l → s + 1 - f ≤ 5 → ent ne sc st row f (s + 1 - f) ≠ none → f1 ≤ f) := by
  intro l
  induction l with
  | nil =>
    intro _
    exact ⟨fun _ f e h => absurd h List.not_mem_nil, fun _ _ _ _ f e h => absurd h List.not_mem_nil⟩
  | cons q l ih =>
    intro hpw
    obtain ⟨f0, e0⟩ := q
    obtain ⟨hlt, hpw2⟩ := List.pairwise_cons.mp hpw
    obtain ⟨ih1, ih2⟩ := ih hpw2
    by_cases h5 : 5 < s + 1 - f0
    · refine ⟨fun _ f e h hle => ?_, fun rest f1 k h => ?_⟩
      · rcases List.mem_cons.mp h with q | q
        · injection q with q1 q2
          rw [q1] at hle
          omega
        · have : f < f0 := hlt (f, e) q
          omega
      · rw [pk5_big h5] at h
        cases h
    · cases hp : pk5 ne sc st row s l with
      | some r =>
        refine ⟨fun h => ?_, fun rest f1 k h f e hm hle hne => ?_⟩
        · rw [pk5_deep h5 hp] at h
          cases h
        · rw [pk5_deep h5 hp] at h
          have h2 : pk5 ne sc st row s l = some (rest, f1, k) := by rw [hp]; exact h
          rcases List.mem_cons.mp hm with q | q
          · injection q with q1 q2
            obtain ⟨⟨l1, e2, hl⟩, -, -⟩ := pk5_in _ h2
            have hmem : (f1, e2) ∈ l := by rw [hl]; exact List.mem_append_right _ List.mem_cons_self
            have : f1 < f0 := hlt (f1, e2) hmem
            omega
          · exact ih2 rest f1 k h2 f e q hle hne
      | none =>
        cases he : ent ne sc st row f0 (s + 1 - f0) with
        | none =>
          refine ⟨fun _ f e hm hle => ?_, fun rest f1 k h => ?_⟩
          · rcases List.mem_cons.mp hm with q | q
            · injection q with q1 q2
              rw [q1]
              exact he
            · exact ih1 hp f e q hle
          · rw [pk5_not h5 hp he] at h
            cases h
        | some k0 =>
          refine ⟨fun h => ?_, fun rest f1 k h f e hm hle hne => ?_⟩
          · rw [pk5_here h5 hp he] at h
            cases h
          · rw [pk5_here h5 hp he] at h
            injection h with h
            injection h with h3 h4
            injection h4 with h5' h6
            rcases List.mem_cons.mp hm with q | q
            · injection q with q1 q2
              omega
            · exact absurd (ih1 hp f e q hle) hne
theorem RD_pw : ∀ (n : Nat), (RD ne sc st row n).Pairwise (fun a b => b.1 < a.1) := by
  intro n
  induction n using Nat.strongRecOn with
  | _ n ih =>
    rcases RD_c (ne := ne) (sc := sc) (st := st) (row := row) n n (Nat.le_refl n) with h0 | ⟨f, e, hf, h⟩
    · subst h0
      rw [RD]
      exact List.Pairwise.nil
    · rw [h]
      exact List.pairwise_cons.mpr ⟨fun q hq => RD_f f hq, ih f hf⟩
/-- the longest one is RD's last translation -/
theorem top_ok {i l : Nat} {t : Option Nat} (hd : dst ne sc st) (h5 : ∀ k, k < ne → sc k ≤ 5) (hB : bestE ne sc st row i ne l t) : ∃ f, f ≤ i ∧ RD ne sc st row (i + 1) = (f, t) :: RD ne sc st row f ∧ (t = none → f = i) ∧ (t ≠ none → l ≤ i + 1 ∧ f = i + 1 - l) := by
  obtain ⟨f, e, hf, hR⟩ : ∃ f e, f < i + 1 ∧ RD ne sc st row (i + 1) = (f, e) :: RD ne sc st row f := by
    rcases RD_c (ne := ne) (sc := sc) (st := st) (row := row) (i + 1) (i + 1) (Nat.le_refl _) with h0 | h0
    · omega
    · exact h0
  have hS : RD ne sc st row (i + 1) = stp ne sc st row i (RD ne sc st row i) := by rw [RD]
  obtain ⟨mx1, mx2⟩ := pk5_maxL (ne := ne) (sc := sc) (st := st) (row := row) (s := i) (RD ne sc st row i) (RD_pw i)
  have key : t = e ∧ (t = none → f = i) ∧ (t ≠ none → l ≤ i + 1 ∧ f = i + 1 - l) := by
    rw [stp] at hS
    cases hp : pk5 ne sc st row i (RD ne sc st row i) with
    | none =>
      rw [hp] at hS
      dsimp only at hS
      rw [hR] at hS
      injection hS with ha hb
      injection ha with hc hd2
      rcases hB with ⟨b1, b2, b3⟩ | ⟨k0, b1, b2, b3, b4, b5⟩
      · refine ⟨?_, fun _ => hc, fun q => absurd b1 q⟩
        rw [b1, hd2]
        cases he : ent ne sc st row i 1 with
        | none => rfl
        | some k =>
          obtain ⟨e1, e2⟩ := ent_s he
          refine absurd ⟨⟨i, List.mem_cons_self, ?_⟩, ?_⟩ (b3 k e1)
          · rw [e2.1]; omega
          · rw [e2.1, show i + 1 - 1 = i by omega]; exact e2
      · obtain ⟨⟨x, hx1, hx2⟩, hm⟩ := b4
        have hk5 := h5 k0 b2
        rcases List.mem_cons.mp hx1 with ex | ex
        · have h1 : sc k0 = 1 := by omega
          rw [h1, show i + 1 - 1 = i by omega] at hm
          refine ⟨?_, (fun q => by rw [b1] at q; cases q), fun _ => ⟨by omega, by omega⟩⟩
          rw [b1, hd2, ent_is hd b2 hm]
        · obtain ⟨q, hq, hqx⟩ := List.mem_map.mp ex
          have hqi := RD_f i hq
          have hno := mx1 hp q.1 q.2 hq (by omega)
          rw [show i + 1 - sc k0 = q.1 by omega, show sc k0 = i + 1 - q.1 by omega] at hm
          exact absurd hm (ent_n hno k0 b2)
    | some r =>
      obtain ⟨rest, f1, k⟩ := r
      rw [hp] at hS
      dsimp only at hS
      rw [hR] at hS
      injection hS with ha hb
      injection ha with hc hd2
      obtain ⟨⟨l1, e2, hl⟩, he, hn5⟩ := pk5_in _ hp
      obtain ⟨hk, hm⟩ := ent_s he
      have hmem : (f1, e2) ∈ RD ne sc st row i := by rw [hl]; exact List.mem_append_right _ List.mem_cons_self
      have hfi : f1 < i := RD_f i hmem
      have hmay : mayE ne sc st row i k := by
        refine ⟨⟨f1, List.mem_cons_of_mem _ (List.mem_map.mpr ⟨(f1, e2), hmem, rfl⟩), hm.1.symm⟩, ?_⟩
        rw [hm.1, show i + 1 - (i + 1 - f1) = f1 by omega]
        exact hm
      rcases hB with ⟨b1, b2, b3⟩ | ⟨k0, b1, b2, b3, b4, b5⟩
      · exact absurd hmay (b3 k hk)
      · have hle := b5 k hk hmay
        obtain ⟨⟨x, hx1, hx2⟩, hm0⟩ := b4
        have hk5 := h5 k0 b2
        have hsk := hm.1
        rcases List.mem_cons.mp hx1 with ex | ex
        · omega
        · obtain ⟨q, hq, hqx⟩ := List.mem_map.mp ex
          have hqi := RD_f i hq
          rw [show i + 1 - sc k0 = q.1 by omega, show sc k0 = i + 1 - q.1 by omega] at hm0
          have hne0 : ent ne sc st row q.1 (i + 1 - q.1) ≠ none := fun z => ent_n z k0 b2 hm0
          have hfq := mx2 rest f1 k hp q.1 q.2 hq (by omega) hne0
          have hqf : q.1 = f1 := by omega
          rw [hqf] at hm0
          have hkk := mt_one hd hk b2 hm hm0
          exact ⟨by rw [b1, hd2, hkk], (fun z => by rw [b1] at z; cases z), fun _ => ⟨by omega, by omega⟩⟩
  exact ⟨f, by omega, by rw [key.1]; exact hR, key.2.1, key.2.2⟩
theorem readStroke_ok {N i : Nat} {asc ast : Nat → Int32} {ea fa : Nat → Int32} (hN : 70 ≤ N) (hne : ne ≤ 60) (hd : dst ne sc st) (hi : i < 300) (hs : ∀ k, k < ne → asc k = nI (sc k) ∧ 1 ≤ sc k ∧ sc k ≤ 5 ∧ ∀ j, j < sc k → ast (5 * k + j) = st (5 * k + j)) (hI : rdI ne sc st row i fa ea) : ∃ ea' fa', jf_Reading_readStroke N (nI i) (nI ne) asc ast row ea fa = some (ea', fa') ∧ rdI ne sc st row (i + 1) fa' ea' := by
  obtain ⟨m, h1, h2, h3⟩ := lengthsAt_ok (N := N) (by omega) hi hI
  obtain ⟨l', t', h4, h5, h6⟩ := rs_loop (N := N) (ea := ea) (fa := fa) hN hne hi hs h2 h3 ne 0 0 none N (by omega) (by omega) (by omega) (Or.inl ⟨rfl, rfl, fun k hk => by omega⟩)
  obtain ⟨f, hf, hR, ht1, ht2⟩ := top_ok hd (fun k hk => (hs k hk).2.2.1) h6
  refine ⟨upd ea i (oI t'), upd fa i (nI f), ?_, fun j hj => ?_⟩
  · have h4' : jf_Reading_readStroke_b14 N (nI i) (nI ne) asc ast row N (nI m) 0 (-1) 0 ea fa = jf_Reading_readStroke_b100 (nI i) (nI l') (oI t') ea fa := h4
    rw [jf_Reading_readStroke, h1, Option.bind_some, h4', jf_Reading_readStroke_b100, p_ga hi (by omega), p_cl (by omega)]
    cases t' with
    | none =>
      rw [if_pos (show oI none = -1 from rfl), jf_Reading_readStroke_b128, p_ga hi (by omega), p_cl (by omega), ht1 rfl]
    | some k =>
      obtain ⟨q1, q2⟩ := ht2 (by simp)
      have hk : k < 60 := by
        rcases h6 with ⟨z, -, -⟩ | ⟨k0, z, hz, -⟩
        · cases z
        · cases z; omega
      rw [if_neg (show ¬ oI (some k) = -1 from fun q => by have := p_m1 (n := k) (by omega); rw [← p_neg1] at this; exact cast this q), jf_Reading_readStroke_b128, p_ga hi (by omega), p_cl (by omega), p_sub1 q1, q2]
  · by_cases e : j = i
    · subst e
      exact ⟨f, t', hf, hR, p_upd_s, p_upd_s⟩
    · obtain ⟨f2, e2, g1, g2, g3, g4⟩ := hI j (by omega)
      exact ⟨f2, e2, g1, g2, by rw [p_upd_n e]; exact g3, by rw [p_upd_n e]; exact g4⟩
theorem read_loop {N n : Nat} {asc ast : Nat → Int32} (hN : 70 ≤ N) (hne : ne ≤ 60) (hd : dst ne sc st) (hn : n ≤ 300) (hs : ∀ k, k < ne → asc k = nI (sc k) ∧ 1 ≤ sc k ∧ sc k ≤ 5 ∧ ∀ j, j < sc k → ast (5 * k + j) = st (5 * k + j)) : ∀ (d i g : Nat) (rs : Int32) (ea fa : Nat → Int32), i + d = n → d < g → rdI ne sc st row i fa ea → ∃ ea' fa', jf_Reading_read_b9 N (nI n) (nI ne) asc ast row g (nI i) rs ea fa = some (nI n, ea', fa') ∧ rdI ne sc st row n fa' ea' := by
  intro d
  induction d with
  | zero =>
    intro i g rs ea fa hi hg hI
    obtain ⟨g, rfl⟩ : ∃ z, g = z + 1 := ⟨g - 1, by omega⟩
    have : i = n := by omega
    subst this
    exact ⟨ea, fa, by rw [jf_Reading_read_b9, if_pos (p_yle (Nat.le_refl _) (by omega)), jf_Reading_read_b28], hI⟩
  | succ d ih =>
    intro i g rs ea fa hi hg hI
    obtain ⟨g, rfl⟩ : ∃ z, g = z + 1 := ⟨g - 1, by omega⟩
    obtain ⟨ea1, fa1, h1, h2⟩ := readStroke_ok (N := N) hN hne hd (by omega : i < 300) hs hI
    obtain ⟨ea', fa', h3, h4⟩ := ih (i + 1) g rs ea1 fa1 (by omega) (by omega) h2
    refine ⟨ea', fa', ?_, h4⟩
    rw [jf_Reading_read_b9, if_neg (p_nle (by omega) (by omega)), h1, Option.bind_some]
    dsimp only
    rw [nI_1]
    exact h3
theorem read_ok {N n q : Nat} {asc ast ea fa : Nat → Int32} (hN : 400 ≤ N) (hne : ne ≤ 60) (hd : dst ne sc st) (hn : n ≤ 300) (hq : q ≤ n) (hs : ∀ k, k < ne → asc k = nI (sc k) ∧ 1 ≤ sc k ∧ sc k ≤ 5 ∧ ∀ j, j < sc k → ast (5 * k + j) = st (5 * k + j)) (hI : rdI ne sc st row q fa ea) : ∃ ea' fa', jf_Reading_read N (nI n) (nI ne) asc ast row (nI q) ea fa = some (nI n, ea', fa') ∧ rdI ne sc st row n fa' ea' := by
  rw [jf_Reading_read, if_neg (p_n0 (by omega))]
  exact read_loop (by omega) hne hd hn hs (n - q) q N (nI q) ea fa (by omega) (by omega) hI
theorem mt_cong {row' : Nat → Int32} {f n m : Nat} (hfm : f + m ≤ n) (h : ∀ j, j < n → row' j = row j) (k : Nat) : mt sc st row' f m k ↔ mt sc st row f m k := by
  constructor
  · intro q
    exact ⟨q.1, fun j hj => (q.2 j hj).trans (h (f + j) (by omega))⟩
  · intro q
    exact ⟨q.1, fun j hj => (q.2 j hj).trans (h (f + j) (by omega)).symm⟩
theorem ent_cong {row' : Nat → Int32} {f n m : Nat} (hd : dst ne sc st) (hfm : f + m ≤ n) (h : ∀ j, j < n → row' j = row j) : ent ne sc st row' f m = ent ne sc st row f m := by
  cases e : ent ne sc st row f m with
  | some k =>
    obtain ⟨h1, h2⟩ := ent_s e
    exact ent_is hd h1 ((mt_cong hfm h k).mpr h2)
  | none =>
    cases e2 : ent ne sc st row' f m with
    | none => rfl
    | some k =>
      obtain ⟨h1, h2⟩ := ent_s e2
      exact absurd ((mt_cong hfm h k).mp h2) (ent_n e k h1)
theorem pk5_cong {row' : Nat → Int32} {n : Nat} (hd : dst ne sc st) (h : ∀ j, j < n + 1 → row' j = row j) : ∀ l : List (Nat × Option Nat), (∀ q, q ∈ l → q.1 ≤ n) → pk5 ne sc st row' n l = pk5 ne sc st row n l := by
  intro l
  induction l with
  | nil => intro _; rw [pk5, pk5]
  | cons q l ihl =>
    intro hq
    obtain ⟨f, e⟩ := q
    have hfn : f ≤ n := hq (f, e) List.mem_cons_self
    rw [pk5, pk5, ihl (fun q' hq' => hq q' (List.mem_cons_of_mem _ hq')), ent_cong hd (by omega : f + (n + 1 - f) ≤ n + 1) h]
/-- what is read depends on the strokes read alone -/
theorem RD_cong {row' : Nat → Int32} (hd : dst ne sc st) : ∀ (n : Nat), (∀ j, j < n → row' j = row j) → RD ne sc st row' n = RD ne sc st row n := by
  intro n
  induction n with
  | zero => intro _; rw [RD, RD]
  | succ n ih =>
    intro h
    rw [RD, RD, ih (fun j hj => h j (by omega)), stp, stp, pk5_cong hd h _ (fun q hq => Nat.le_of_lt (RD_f n hq)), ent_cong hd (by omega : n + 1 ≤ n + 1) h]
theorem rdI_cong {row' : Nat → Int32} {q : Nat} {fa ea : Nat → Int32} (hd : dst ne sc st) (h : ∀ j, j < q → row' j = row j) (hI : rdI ne sc st row q fa ea) : rdI ne sc st row' q fa ea := by
  intro j hj
  obtain ⟨f, e, h1, h2, h3, h4⟩ := hI j hj
  refine ⟨f, e, h1, ?_, h3, h4⟩
  rw [RD_cong (row := row) hd (j + 1) (fun a ha => h a (by omega)), RD_cong (row := row) hd f (fun a ha => h a (by omega))]
  exact h2
end CR2
