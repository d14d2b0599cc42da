/-! the reference reads -/

section RRrecord
variable {ne N : Nat} {sc : Nat → Nat} {st row ss sm : Nat → Int32}
theorem eo_record {f n : Nat} (hne : ne ≤ 60) (hN : 70 ≤ N) (hd : dst ne sc st) (hs : ∀ k, k < ne → sm k = nI (sc k) ∧ sc k ≤ 5 ∧ ∀ i, i < sc k → ss (5 * k + i) = st (5 * k + i)) (hn : n ≤ 5) (hf : f + n ≤ 300) : jf_Model_entryOf_record N (nI f) (nI n) (nI ne) row sm ss = some (oI (ent ne sc st row f n)) := by
  have h := eo_out_record (row := row) (ss := ss) (sm := sm) (sc := sc) (N := N) (f := f) (n := n) (ne := ne) hne hn (by omega) hf (fun k hk => ⟨(hs k hk).1, (hs k hk).2.1⟩) ne 0 N (by omega) (by omega)
  have hm : ∀ k, k < ne → (mt sc st row f n k ↔ mt sc ss row f n k) := fun k hk => mt_st (fun e i hi => (hs k hk).2.2 i (by omega)) (fun i hi => rfl)
  cases e : ent ne sc st row f n with
  | none => exact h.2 (fun j _ hj q => ent_n e j hj ((hm j hj).mpr q))
  | some k =>
    obtain ⟨h1, h2⟩ := ent_s e
    exact h.1 k (Nat.zero_le k) h1 ((hm k h1).mp h2) (fun j _ hj q => by
      have := mt_one hd (by omega : j < ne) h1 ((hm j (by omega)).mpr q) h2
      omega)
/-- what the loop over the stack finds -/
noncomputable def found (ne : Nat) (sc : Nat → Nat) (st row : Nat → Int32) (s : Nat) (l : List (Nat × Option Nat)) (b a : Int32) : Int32 × Int32 := match pk5 ne sc st row s l with
  | some (rest, _, k) => (nI k, nI rest.length)
  | none => (b, a)
theorem rd_in_record {k14 : Int32 → Int32 → (Nat → Int32) → (Nat → Int32) → Option (Int32 × (Nat → Int32) × (Nat → Int32))} {s tr : Nat} {ea fa : Nat → Int32} (hne : ne ≤ 60) (hN : 70 ≤ N) (hd : dst ne sc st) (hs : ∀ k, k < ne → sm k = nI (sc k) ∧ sc k ≤ 5 ∧ ∀ i, i < sc k → ss (5 * k + i) = st (5 * k + i)) (hs300 : s < 300) (htr : tr ≤ 300) : ∀ (l : List (Nat × Option Nat)) (g : Nat) (b a : Int32), l.length ≤ tr → l.length < g → stk fa ea l → (∀ q ∈ l, q.1 ≤ s) → jf_Model_reads_record_b34 N (nI ne) row sm ss k14 g (nI s) b a (nI l.length + (-1)) (nI tr) ea fa = jf_Model_reads_record_b112 k14 (nI s) (found ne sc st row s l b a).1 (found ne sc st row s l b a).2 (nI tr) ea fa := by
  intro l
  induction l with
  | nil =>
    intro g b a hl hg hk hq
    obtain ⟨g, rfl⟩ : ∃ z, g = z + 1 := ⟨g - 1, by omega⟩
    rw [jf_Model_reads_record_b34, if_pos (by decide), found, pk5]
  | cons q l ih =>
    intro g b a hl hg hk hq
    obtain ⟨g, rfl⟩ : ∃ z, g = z + 1 := ⟨g - 1, by omega⟩
    obtain ⟨f, e⟩ := q
    obtain ⟨k1, k2, k3⟩ := hk
    rw [List.length_cons] at hl hg
    have hfs : f ≤ s := hq (f, e) (List.mem_cons_self)
    rw [List.length_cons, p_d1 (by omega), Nat.add_sub_cancel, jf_Model_reads_record_b34, if_neg (p_n0 (by omega)), if_neg (p_ne (by omega) (by omega) (by omega)), p_ga (by omega) (by omega), p_cl (by omega), k1, jf_Model_reads_record_b59, nI_1, p_sub (by omega), found, pk5]
    by_cases h5 : 5 < s + 1 - f
    · rw [if_pos h5, if_neg (by rw [p_lit 5]; exact p_nle h5 (by omega)), jf_Model_reads_record_b71]
    · rw [if_neg h5, if_pos (by rw [p_lit 5]; exact p_yle (by omega) (by omega)), eo_record hne hN hd hs (by omega) (by omega), Option.bind_some]
      have ihn := fun (b' a' : Int32) => ih g b' a' (by omega) (by omega) k3 (fun q' hq' => hq q' (List.mem_cons_of_mem _ hq'))
      cases he : ent ne sc st row f (s + 1 - f) with
      | none =>
        rw [oI, if_pos rfl, jf_Model_reads_record_b106, ihn b a, found]
        cases hp : pk5 ne sc st row s l with
        | none => rfl
        | some r => rfl
      | some k0 =>
        have hk0 := (ent_s he).1
        rw [oI, if_neg (show ¬ nI k0 = -1 from fun q => by have := p_m1 (n := k0) (by omega); rw [← p_neg1] at this; exact cast this q), jf_Model_reads_record_b106, ihn (nI k0) (nI l.length), found]
        cases hp : pk5 ne sc st row s l with
        | none => rfl
        | some r => rfl
/-- one stroke more -/
theorem rd_step_record {n s g : Nat} {ea fa : Nat → Int32} (hne : ne ≤ 60) (hN : 400 ≤ N) (hd : dst ne sc st) (hs : ∀ k, k < ne → sm k = nI (sc k) ∧ sc k ≤ 5 ∧ ∀ i, i < sc k → ss (5 * k + i) = st (5 * k + i)) (hn : n ≤ 300) (hsn : s < n) (hk : stk fa ea (RD ne sc st row s)) : ∃ ea' fa', jf_Model_reads_record_b14 N (nI n) (nI ne) row sm ss (g + 1) (nI s) (nI (RD ne sc st row s).length) ea fa = jf_Model_reads_record_b14 N (nI n) (nI ne) row sm ss g (nI (s + 1)) (nI (RD ne sc st row (s + 1)).length) ea' fa' ∧ stk fa' ea' (RD ne sc st row (s + 1)) ∧ fa' (RD ne sc st row (s + 1)).length = nI (s + 1) := by
  have hlen := RD_len (ne := ne) (sc := sc) (st := st) (row := row) s
  obtain ⟨M, rfl⟩ : ∃ z, N = z + 1 := ⟨N - 1, by omega⟩
  have e1 : jf_Model_reads_record_b14 (M + 1) (nI n) (nI ne) row sm ss (g + 1) (nI s) (nI (RD ne sc st row s).length) ea fa = jf_Model_reads_record_b112 (jf_Model_reads_record_b14 (M + 1) (nI n) (nI ne) row sm ss g) (nI s) (found ne sc st row s (RD ne sc st row s) (oI (ent ne sc st row s 1)) (nI (RD ne sc st row s).length)).1 (found ne sc st row s (RD ne sc st row s) (oI (ent ne sc st row s 1)) (nI (RD ne sc st row s).length)).2 (nI (RD ne sc st row s).length) ea fa := by
    rw [jf_Model_reads_record_b14, if_neg (p_nle hsn (by omega)), jf_Model_reads_record_b34, if_neg (p_n0 (by omega)), if_pos rfl, jf_Model_reads_record_b59, nI_1, p_sub (by omega), Nat.add_sub_cancel_left, if_pos (by rw [p_lit 5]; exact p_yle (by omega) (by omega)), eo_record hne (by omega) hd hs (by omega) (by omega), Option.bind_some]
    have hin := fun (b a : Int32) => rd_in_record (k14 := jf_Model_reads_record_b14 (M + 1) (nI n) (nI ne) row sm ss g) (s := s) (tr := (RD ne sc st row s).length) (ea := ea) (fa := fa) (row := row) (sm := sm) (ss := ss) (N := M + 1) hne (by omega) hd hs (by omega) (by omega) (RD ne sc st row s) M b a (Nat.le_refl _) (by omega) hk (fun q hq => by have := RD_f s hq; omega)
    cases he : ent ne sc st row s 1 with
    | none => rw [oI, if_pos rfl, jf_Model_reads_record_b106, hin]
    | some k0 =>
      have hk0 := (ent_s he).1
      rw [oI, if_neg (show ¬ nI k0 = -1 from fun q => by have := p_m1 (n := k0) (by omega); rw [← p_neg1] at this; exact cast this q), jf_Model_reads_record_b106, hin]
  rw [e1]
  have hRD : RD ne sc st row (s + 1) = stp ne sc st row s (RD ne sc st row s) := by rw [RD]
  rw [hRD, stp, found]
  cases hp : pk5 ne sc st row s (RD ne sc st row s) with
  | none =>
    dsimp only
    refine ⟨upd ea (RD ne sc st row s).length (oI (ent ne sc st row s 1)), upd (upd fa (RD ne sc st row s).length (nI s)) ((RD ne sc st row s).length + 1) (nI (s + 1)), ?_, ⟨?_, p_upd_s, ?_⟩, ?_⟩
    · rw [jf_Model_reads_record_b112, if_pos rfl, p_ga (by omega) (by omega), jf_Model_reads_record_b129, p_ga (by omega) (by omega), nI_1, nI_1, p_ga (by omega) (by omega), p_cl (by omega), p_cl (by omega), List.length_cons]
    · rw [p_upd_n (by omega), p_upd_s]
    · exact stk_cong _ hk (fun t ht => ⟨by rw [p_upd_n (by omega), p_upd_n (by omega)], by rw [p_upd_n (by omega)]⟩)
    · rw [List.length_cons, p_upd_s]
  | some r =>
    obtain ⟨rest, f, k0⟩ := r
    obtain ⟨⟨l1, e, hl⟩, -, -⟩ := pk5_in _ hp
    have hk2 : stk fa ea ((f, e) :: rest) := stk_tail l1 (by rw [← hl]; exact hk)
    have hrl : rest.length < (RD ne sc st row s).length := by rw [hl, List.length_append, List.length_cons]; omega
    dsimp only
    refine ⟨upd ea rest.length (nI k0), upd fa (rest.length + 1) (nI (s + 1)), ?_, ⟨?_, p_upd_s, ?_⟩, ?_⟩
    · rw [jf_Model_reads_record_b112, if_neg (p_ne (by omega) (by omega) (by omega)), jf_Model_reads_record_b129, p_ga (by omega) (by omega), nI_1, nI_1, p_ga (by omega) (by omega), p_cl (by omega), p_cl (by omega), List.length_cons]
    · rw [p_upd_n (by omega)]; exact hk2.1
    · exact stk_cong _ hk2.2.2 (fun t ht => ⟨by rw [p_upd_n (by omega)], by rw [p_upd_n (by omega)]⟩)
    · rw [List.length_cons, p_upd_s]
theorem rd_loop_record {n : Nat} (hne : ne ≤ 60) (hN : 400 ≤ N) (hd : dst ne sc st) (hs : ∀ k, k < ne → sm k = nI (sc k) ∧ sc k ≤ 5 ∧ ∀ i, i < sc k → ss (5 * k + i) = st (5 * k + i)) (hn : n ≤ 300) : ∀ (d s g : Nat) (ea fa : Nat → Int32), s + d = n → d < g → stk fa ea (RD ne sc st row s) → fa (RD ne sc st row s).length = nI s → ∃ ea' fa', jf_Model_reads_record_b14 N (nI n) (nI ne) row sm ss g (nI s) (nI (RD ne sc st row s).length) ea fa = some (nI (RD ne sc st row n).length, ea', fa') ∧ stk fa' ea' (RD ne sc st row n) ∧ fa' (RD ne sc st row n).length = nI n := by
  intro d
  induction d with
  | zero =>
    intro s g ea fa hsd hg hk hf
    obtain ⟨g, rfl⟩ : ∃ z, g = z + 1 := ⟨g - 1, by omega⟩
    have : s = n := by omega
    subst this
    exact ⟨ea, fa, by rw [jf_Model_reads_record_b14, if_pos (p_yle (Nat.le_refl _) (by omega))], hk, hf⟩
  | succ d ih =>
    intro s g ea fa hsd hg hk hf
    obtain ⟨g, rfl⟩ : ∃ z, g = z + 1 := ⟨g - 1, by omega⟩
    obtain ⟨ea1, fa1, h1, h2, h3⟩ := rd_step_record (g := g) (n := n) (s := s) (row := row) (sm := sm) (ss := ss) hne hN hd hs hn (by omega) hk
    obtain ⟨ea', fa', h4, h5, h6⟩ := ih (s + 1) g ea1 fa1 (by omega) (by omega) h2 h3
    exact ⟨ea', fa', by rw [h1]; exact h4, h5, h6⟩
theorem reads_record {n : Nat} {tr : Int32} {ea fa : Nat → Int32} (hne : ne ≤ 60) (hN : 400 ≤ N) (hd : dst ne sc st) (hs : ∀ k, k < ne → sm k = nI (sc k) ∧ sc k ≤ 5 ∧ ∀ i, i < sc k → ss (5 * k + i) = st (5 * k + i)) (hn : n ≤ 300) : ∃ ea' fa', jf_Model_reads_record N (nI n) (nI ne) row sm ss tr ea fa = some (nI (RD ne sc st row n).length, ea', fa') ∧ stk fa' ea' (RD ne sc st row n) ∧ fa' (RD ne sc st row n).length = nI n := by
  obtain ⟨ea', fa', h1, h2, h3⟩ := rd_loop_record (row := row) (sm := sm) (ss := ss) hne hN hd hs hn n 0 N ea (upd fa 0 0) (by omega) (by omega) (by rw [RD]; trivial) (by rw [RD]; exact p_upd_s)
  refine ⟨ea', fa', ?_, h2, h3⟩
  have hg : ∀ x : Option (Int32 × (Nat → Int32) × (Nat → Int32)), jga 0 302 x = x := fun x => p_ga (j := 0) (by omega) (by omega)
  rw [jf_Model_reads_record, hg]
  rw [RD] at h1
  exact h1
end RRrecord

section RRtrial
variable {ne N : Nat} {sc : Nat → Nat} {st row ss sm : Nat → Int32}
theorem eo_trial {f n : Nat} (hne : ne ≤ 60) (hN : 70 ≤ N) (hd : dst ne sc st) (hs : ∀ k, k < ne → sm k = nI (sc k) ∧ sc k ≤ 5 ∧ ∀ i, i < sc k → ss (5 * k + i) = st (5 * k + i)) (hn : n ≤ 5) (hf : f + n ≤ 300) : jf_Model_entryOf_trial N (nI f) (nI n) (nI ne) sm ss row = some (oI (ent ne sc st row f n)) := by
  have h := eo_out_trial (row := row) (ss := ss) (sm := sm) (sc := sc) (N := N) (f := f) (n := n) (ne := ne) hne hn (by omega) hf (fun k hk => ⟨(hs k hk).1, (hs k hk).2.1⟩) ne 0 N (by omega) (by omega)
  have hm : ∀ k, k < ne → (mt sc st row f n k ↔ mt sc ss row f n k) := fun k hk => mt_st (fun e i hi => (hs k hk).2.2 i (by omega)) (fun i hi => rfl)
  cases e : ent ne sc st row f n with
  | none => exact h.2 (fun j _ hj q => ent_n e j hj ((hm j hj).mpr q))
  | some k =>
    obtain ⟨h1, h2⟩ := ent_s e
    exact h.1 k (Nat.zero_le k) h1 ((hm k h1).mp h2) (fun j _ hj q => by
      have := mt_one hd (by omega : j < ne) h1 ((hm j (by omega)).mpr q) h2
      omega)
theorem rd_in_trial {k14 : Int32 → Int32 → (Nat → Int32) → (Nat → Int32) → Option (Int32 × (Nat → Int32) × (Nat → Int32))} {s tr : Nat} {ea fa : Nat → Int32} (hne : ne ≤ 60) (hN : 70 ≤ N) (hd : dst ne sc st) (hs : ∀ k, k < ne → sm k = nI (sc k) ∧ sc k ≤ 5 ∧ ∀ i, i < sc k → ss (5 * k + i) = st (5 * k + i)) (hs300 : s < 300) (htr : tr ≤ 300) : ∀ (l : List (Nat × Option Nat)) (g : Nat) (b a : Int32), l.length ≤ tr → l.length < g → stk fa ea l → (∀ q ∈ l, q.1 ≤ s) → jf_Model_reads_trial_b34 N (nI ne) sm ss row k14 g (nI s) b a (nI l.length + (-1)) (nI tr) ea fa = jf_Model_reads_trial_b112 k14 (nI s) (found ne sc st row s l b a).1 (found ne sc st row s l b a).2 (nI tr) ea fa := by
  intro l
  induction l with
  | nil =>
    intro g b a hl hg hk hq
    obtain ⟨g, rfl⟩ : ∃ z, g = z + 1 := ⟨g - 1, by omega⟩
    rw [jf_Model_reads_trial_b34, if_pos (by decide), found, pk5]
  | cons q l ih =>
    intro g b a hl hg hk hq
    obtain ⟨g, rfl⟩ : ∃ z, g = z + 1 := ⟨g - 1, by omega⟩
    obtain ⟨f, e⟩ := q
    obtain ⟨k1, k2, k3⟩ := hk
    rw [List.length_cons] at hl hg
    have hfs : f ≤ s := hq (f, e) (List.mem_cons_self)
    rw [List.length_cons, p_d1 (by omega), Nat.add_sub_cancel, jf_Model_reads_trial_b34, if_neg (p_n0 (by omega)), if_neg (p_ne (by omega) (by omega) (by omega)), p_ga (by omega) (by omega), p_cl (by omega), k1, jf_Model_reads_trial_b59, nI_1, p_sub (by omega), found, pk5]
    by_cases h5 : 5 < s + 1 - f
    · rw [if_pos h5, if_neg (by rw [p_lit 5]; exact p_nle h5 (by omega)), jf_Model_reads_trial_b71]
    · rw [if_neg h5, if_pos (by rw [p_lit 5]; exact p_yle (by omega) (by omega)), eo_trial hne hN hd hs (by omega) (by omega), Option.bind_some]
      have ihn := fun (b' a' : Int32) => ih g b' a' (by omega) (by omega) k3 (fun q' hq' => hq q' (List.mem_cons_of_mem _ hq'))
      cases he : ent ne sc st row f (s + 1 - f) with
      | none =>
        rw [oI, if_pos rfl, jf_Model_reads_trial_b106, ihn b a, found]
        cases hp : pk5 ne sc st row s l with
        | none => rfl
        | some r => rfl
      | some k0 =>
        have hk0 := (ent_s he).1
        rw [oI, if_neg (show ¬ nI k0 = -1 from fun q => by have := p_m1 (n := k0) (by omega); rw [← p_neg1] at this; exact cast this q), jf_Model_reads_trial_b106, ihn (nI k0) (nI l.length), found]
        cases hp : pk5 ne sc st row s l with
        | none => rfl
        | some r => rfl
/-- one stroke more -/
theorem rd_step_trial {n s g : Nat} {ea fa : Nat → Int32} (hne : ne ≤ 60) (hN : 400 ≤ N) (hd : dst ne sc st) (hs : ∀ k, k < ne → sm k = nI (sc k) ∧ sc k ≤ 5 ∧ ∀ i, i < sc k → ss (5 * k + i) = st (5 * k + i)) (hn : n ≤ 300) (hsn : s < n) (hk : stk fa ea (RD ne sc st row s)) : ∃ ea' fa', jf_Model_reads_trial_b14 N (nI n) (nI ne) sm ss row (g + 1) (nI s) (nI (RD ne sc st row s).length) ea fa = jf_Model_reads_trial_b14 N (nI n) (nI ne) sm ss row g (nI (s + 1)) (nI (RD ne sc st row (s + 1)).length) ea' fa' ∧ stk fa' ea' (RD ne sc st row (s + 1)) ∧ fa' (RD ne sc st row (s + 1)).length = nI (s + 1) := by
  have hlen := RD_len (ne := ne) (sc := sc) (st := st) (row := row) s
  obtain ⟨M, rfl⟩ : ∃ z, N = z + 1 := ⟨N - 1, by omega⟩
  have e1 : jf_Model_reads_trial_b14 (M + 1) (nI n) (nI ne) sm ss row (g + 1) (nI s) (nI (RD ne sc st row s).length) ea fa = jf_Model_reads_trial_b112 (jf_Model_reads_trial_b14 (M + 1) (nI n) (nI ne) sm ss row g) (nI s) (found ne sc st row s (RD ne sc st row s) (oI (ent ne sc st row s 1)) (nI (RD ne sc st row s).length)).1 (found ne sc st row s (RD ne sc st row s) (oI (ent ne sc st row s 1)) (nI (RD ne sc st row s).length)).2 (nI (RD ne sc st row s).length) ea fa := by
    rw [jf_Model_reads_trial_b14, if_neg (p_nle hsn (by omega)), jf_Model_reads_trial_b34, if_neg (p_n0 (by omega)), if_pos rfl, jf_Model_reads_trial_b59, nI_1, p_sub (by omega), Nat.add_sub_cancel_left, if_pos (by rw [p_lit 5]; exact p_yle (by omega) (by omega)), eo_trial hne (by omega) hd hs (by omega) (by omega), Option.bind_some]
    have hin := fun (b a : Int32) => rd_in_trial (k14 := jf_Model_reads_trial_b14 (M + 1) (nI n) (nI ne) sm ss row g) (s := s) (tr := (RD ne sc st row s).length) (ea := ea) (fa := fa) (row := row) (sm := sm) (ss := ss) (N := M + 1) hne (by omega) hd hs (by omega) (by omega) (RD ne sc st row s) M b a (Nat.le_refl _) (by omega) hk (fun q hq => by have := RD_f s hq; omega)
    cases he : ent ne sc st row s 1 with
    | none => rw [oI, if_pos rfl, jf_Model_reads_trial_b106, hin]
    | some k0 =>
      have hk0 := (ent_s he).1
      rw [oI, if_neg (show ¬ nI k0 = -1 from fun q => by have := p_m1 (n := k0) (by omega); rw [← p_neg1] at this; exact cast this q), jf_Model_reads_trial_b106, hin]
  rw [e1]
  have hRD : RD ne sc st row (s + 1) = stp ne sc st row s (RD ne sc st row s) := by rw [RD]
  rw [hRD, stp, found]
  cases hp : pk5 ne sc st row s (RD ne sc st row s) with
  | none =>
    dsimp only
    refine ⟨upd ea (RD ne sc st row s).length (oI (ent ne sc st row s 1)), upd (upd fa (RD ne sc st row s).length (nI s)) ((RD ne sc st row s).length + 1) (nI (s + 1)), ?_, ⟨?_, p_upd_s, ?_⟩, ?_⟩
    · rw [jf_Model_reads_trial_b112, if_pos rfl, p_ga (by omega) (by omega), jf_Model_reads_trial_b129, p_ga (by omega) (by omega), nI_1, nI_1, p_ga (by omega) (by omega), p_cl (by omega), p_cl (by omega), List.length_cons]
    · rw [p_upd_n (by omega), p_upd_s]
    · exact stk_cong _ hk (fun t ht => ⟨by rw [p_upd_n (by omega), p_upd_n (by omega)], by rw [p_upd_n (by omega)]⟩)
    · rw [List.length_cons, p_upd_s]
  | some r =>
    obtain ⟨rest, f, k0⟩ := r
    obtain ⟨⟨l1, e, hl⟩, -, -⟩ := pk5_in _ hp
    have hk2 : stk fa ea ((f, e) :: rest) := stk_tail l1 (by rw [← hl]; exact hk)
    have hrl : rest.length < (RD ne sc st row s).length := by rw [hl, List.length_append, List.length_cons]; omega
    dsimp only
    refine ⟨upd ea rest.length (nI k0), upd fa (rest.length + 1) (nI (s + 1)), ?_, ⟨?_, p_upd_s, ?_⟩, ?_⟩
    · rw [jf_Model_reads_trial_b112, if_neg (p_ne (by omega) (by omega) (by omega)), jf_Model_reads_trial_b129, p_ga (by omega) (by omega), nI_1, nI_1, p_ga (by omega) (by omega), p_cl (by omega), p_cl (by omega), List.length_cons]
    · rw [p_upd_n (by omega)]; exact hk2.1
    · exact stk_cong _ hk2.2.2 (fun t ht => ⟨by rw [p_upd_n (by omega)], by rw [p_upd_n (by omega)]⟩)
    · rw [List.length_cons, p_upd_s]
theorem rd_loop_trial {n : Nat} (hne : ne ≤ 60) (hN : 400 ≤ N) (hd : dst ne sc st) (hs : ∀ k, k < ne → sm k = nI (sc k) ∧ sc k ≤ 5 ∧ ∀ i, i < sc k → ss (5 * k + i) = st (5 * k + i)) (hn : n ≤ 300) : ∀ (d s g : Nat) (ea fa : Nat → Int32), s + d = n → d < g → stk fa ea (RD ne sc st row s) → fa (RD ne sc st row s).length = nI s → ∃ ea' fa', jf_Model_reads_trial_b14 N (nI n) (nI ne) sm ss row g (nI s) (nI (RD ne sc st row s).length) ea fa = some (nI (RD ne sc st row n).length, ea', fa') ∧ stk fa' ea' (RD ne sc st row n) ∧ fa' (RD ne sc st row n).length = nI n := by
  intro d
  induction d with
  | zero =>
    intro s g ea fa hsd hg hk hf
    obtain ⟨g, rfl⟩ : ∃ z, g = z + 1 := ⟨g - 1, by omega⟩
    have : s = n := by omega
    subst this
    exact ⟨ea, fa, by rw [jf_Model_reads_trial_b14, if_pos (p_yle (Nat.le_refl _) (by omega))], hk, hf⟩
  | succ d ih =>
    intro s g ea fa hsd hg hk hf
    obtain ⟨g, rfl⟩ : ∃ z, g = z + 1 := ⟨g - 1, by omega⟩
    obtain ⟨ea1, fa1, h1, h2, h3⟩ := rd_step_trial (g := g) (n := n) (s := s) (row := row) (sm := sm) (ss := ss) hne hN hd hs hn (by omega) hk
    obtain ⟨ea', fa', h4, h5, h6⟩ := ih (s + 1) g ea1 fa1 (by omega) (by omega) h2 h3
    exact ⟨ea', fa', by rw [h1]; exact h4, h5, h6⟩
theorem reads_trial {n : Nat} {tr : Int32} {ea fa : Nat → Int32} (hne : ne ≤ 60) (hN : 400 ≤ N) (hd : dst ne sc st) (hs : ∀ k, k < ne → sm k = nI (sc k) ∧ sc k ≤ 5 ∧ ∀ i, i < sc k → ss (5 * k + i) = st (5 * k + i)) (hn : n ≤ 300) : ∃ ea' fa', jf_Model_reads_trial N (nI n) (nI ne) sm ss row tr ea fa = some (nI (RD ne sc st row n).length, ea', fa') ∧ stk fa' ea' (RD ne sc st row n) ∧ fa' (RD ne sc st row n).length = nI n := by
  obtain ⟨ea', fa', h1, h2, h3⟩ := rd_loop_trial (row := row) (sm := sm) (ss := ss) hne hN hd hs hn n 0 N ea (upd fa 0 0) (by omega) (by omega) (by rw [RD]; trivial) (by rw [RD]; exact p_upd_s)
  refine ⟨ea', fa', ?_, h2, h3⟩
  have hg : ∀ x : Option (Int32 × (Nat → Int32) × (Nat → Int32)), jga 0 302 x = x := fun x => p_ga (j := 0) (by omega) (by omega)
  rw [jf_Model_reads_trial, hg]
  rw [RD] at h1
  exact h1
end RRtrial
