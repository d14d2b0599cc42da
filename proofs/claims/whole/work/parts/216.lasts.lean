/-! the translations of the class, by their last strokes -/
section TL
variable {ne : Nat} {sc : Nat → Nat} {st row : Nat → Int32}
theorem RD_top {n : Nat} (h : 0 < n) : ∃ f e, f < n ∧ RD ne sc st row n = (f, e) :: RD ne sc st row f := by
  rcases RD_c (ne := ne) (sc := sc) (st := st) (row := row) n n (Nat.le_refl n) with h0 | h0
  · omega
  · exact h0
theorem sts_0 : sts ne sc st row 0 = [0] := by
  unfold sts
  rw [RD]
  rfl
theorem sts_c {n f : Nat} {e : Option Nat} (h : RD ne sc st row n = (f, e) :: RD ne sc st row f) : sts ne sc st row n = n :: sts ne sc st row f := by
  unfold sts
  rw [h, List.map_cons]
theorem sts_self {n : Nat} : n ∈ sts ne sc st row n := List.mem_cons_self
theorem sts_split : ∀ (n c m : Nat), c ∈ sts ne sc st row n → m ∈ sts ne sc st row n → m ≤ c → m ∈ sts ne sc st row c := by
  intro n
  induction n using Nat.strongRecOn with
  | _ n ih =>
    intro c m hc hm hmc
    rcases Nat.eq_zero_or_pos n with h0 | h0
    · subst h0
      rw [sts_0] at hc hm
      rw [List.mem_singleton] at hc hm
      rw [hc, hm, sts_0]
      exact List.mem_singleton.mpr rfl
    · obtain ⟨f, e, hf, hR⟩ := RD_top (ne := ne) (sc := sc) (st := st) (row := row) h0
      have hs := sts_c hR
      have hm0 := hm
      rw [hs] at hc hm
      rcases List.mem_cons.mp hc with q | q
      · rw [q]; exact hm0
      · have hcf := sts_le q
        rcases List.mem_cons.mp hm with q2 | q2
        · omega
        · exact ih f hf c m q q2 hmc
theorem sts_trans : ∀ (n c m : Nat), c ∈ sts ne sc st row n → m ∈ sts ne sc st row c → m ∈ sts ne sc st row n := by
  intro n
  induction n using Nat.strongRecOn with
  | _ n ih =>
    intro c m hc hm
    rcases Nat.eq_zero_or_pos n with h0 | h0
    · subst h0
      rw [sts_0] at hc
      rw [List.mem_singleton] at hc
      rw [hc] at hm
      exact hm
    · obtain ⟨f, e, hf, hR⟩ := RD_top (ne := ne) (sc := sc) (st := st) (row := row) h0
      have hs := sts_c hR
      rw [hs] at hc
      rcases List.mem_cons.mp hc with q | q
      · rw [q] at hm; exact hm
      · rw [hs]
        exact List.mem_cons_of_mem _ (ih f hf c m q hm)
/-- a raw translation is one stroke -/
theorem RD_raw {m f : Nat} (h : RD ne sc st row (m + 1) = (f, none) :: RD ne sc st row f) : f = m := by
  have hS : RD ne sc st row (m + 1) = stp ne sc st row m (RD ne sc st row m) := by rw [RD]
  rw [h, stp] at hS
  cases hp : pk5 ne sc st row m (RD ne sc st row m) with
  | none =>
    rw [hp] at hS
    dsimp only at hS
    injection hS with ha hb
    injection ha
  | some r =>
    obtain ⟨r1, r2, r3⟩ := r
    rw [hp] at hS
    dsimp only at hS
    injection hS with ha hb
    injection ha with hc hd
    cases hd
theorem RD_ent {m f k : Nat} (h : RD ne sc st row (m + 1) = (f, some k) :: RD ne sc st row f) : k < ne := by
  have hS : RD ne sc st row (m + 1) = stp ne sc st row m (RD ne sc st row m) := by rw [RD]
  rw [h, stp] at hS
  cases hp : pk5 ne sc st row m (RD ne sc st row m) with
  | none =>
    rw [hp] at hS
    dsimp only at hS
    injection hS with ha hb
    injection ha with hc hd
    exact (ent_s hd.symm).1
  | some r =>
    obtain ⟨r1, r2, r3⟩ := r
    rw [hp] at hS
    dsimp only at hS
    injection hS with ha hb
    injection ha with hc hd
    injection hd with hk
    obtain ⟨-, he, -⟩ := pk5_in _ hp
    rw [hk]
    exact (ent_s he).1
/-- the rows of the transcript hold the translations ahead of stroke n -/
def tlk (ne : Nat) (sc : Nat → Nat) (st row : Nat → Int32) (la : Nat → Int32) (n : Nat) : Prop := ∀ c f e, c ∈ sts ne sc st row n → RD ne sc st row c = (f, e) :: RD ne sc st row f → la (RD ne sc st row f).length = nI (c - 1)
def own (ne : Nat) (sc : Nat → Nat) (st row : Nat → Int32) (ow : Nat → Int32) (n : Nat) : Prop := ∀ c f e, c ∈ sts ne sc st row n → RD ne sc st row c = (f, e) :: RD ne sc st row f → ∀ j, f ≤ j → j < c → ow j = nI (RD ne sc st row f).length
/-- from the end on: 1 at each last stroke, 0 at the others -/
theorem mark_loop {N n : Nat} {fa ea : Nat → Int32} (hn : n ≤ 300) (hI : rdI ne sc st row n fa ea) : ∀ (d c g : Nat) (z : Int32) (la ow : Nat → Int32), d ≤ n → d < g → c ≤ d → c ∈ sts ne sc st row n → (∀ m, m ∈ sts ne sc st row n → m ≤ d → m ≤ c) → (∀ j, d ≤ j → j < n → (ow j = 1 ∧ j + 1 ∈ sts ne sc st row n) ∨ (ow j = 0 ∧ ¬ j + 1 ∈ sts ne sc st row n)) → ∃ ow', jf_Transcript_findLasts_b20 N (nI n) fa g (nI n) (nI c + (-1)) (nI d + (-1)) z la ow = jf_Transcript_findLasts_b62 N (nI n) z la ow' ∧ ∀ j, j < n → (ow' j = 1 ∧ j + 1 ∈ sts ne sc st row n) ∨ (ow' j = 0 ∧ ¬ j + 1 ∈ sts ne sc st row n) := by
  intro d
  induction d with
  | zero =>
    intro c g z la ow hd hg hcd hc hmax hm
    obtain ⟨g, rfl⟩ : ∃ y, g = y + 1 := ⟨g - 1, by omega⟩
    exact ⟨ow, by rw [jf_Transcript_findLasts_b20, if_pos (by decide)], fun j hj => hm j (by omega) hj⟩
  | succ d ih =>
    intro c g z la ow hd hg hcd hc hmax hm
    obtain ⟨g, rfl⟩ : ∃ y, g = y + 1 := ⟨g - 1, by omega⟩
    by_cases e : c = d + 1
    · obtain ⟨f, e1, hf, hR, hfa, -⟩ := hI d (by omega)
      have hsc := sts_c hR
      have hfn : f ∈ sts ne sc st row n := sts_trans n c f hc (by rw [e, hsc]; exact List.mem_cons_of_mem _ sts_self)
      obtain ⟨ow', h1, h2⟩ := ih f g z la (upd ow d 1) (by omega) (by omega) (by omega) hfn (fun m hm1 hm2 => by
        have := sts_split n c m hc hm1 (by omega)
        rw [e, hsc] at this
        rcases List.mem_cons.mp this with q | q
        · omega
        · exact sts_le q) (fun j hj1 hj2 => by
        by_cases ej : j = d
        · rw [ej, p_upd_s]
          exact Or.inl ⟨rfl, by rw [← e]; exact hc⟩
        · rw [p_upd_n ej]
          exact hm j (by omega) hj2)
      refine ⟨ow', ?_, h2⟩
      rw [e, jf_Transcript_findLasts_b20, p_d1 (by omega), Nat.add_sub_cancel, if_neg (p_n0 (by omega)), if_pos rfl, jf_Transcript_findLasts_b39, p_ga (by omega) (by omega), if_pos rfl, jf_Reading_firstAt, if_neg (p_n0 (by omega)), if_neg (p_nle (by omega) (by omega)), p_ga (by omega) (by omega), p_cl (by omega), Option.bind_some, hfa, jf_Transcript_findLasts_b56, p_sm]
      exact h1
    · have hno : ¬ d + 1 ∈ sts ne sc st row n := fun q => e (by have := hmax (d + 1) q (Nat.le_refl _); omega)
      obtain ⟨ow', h1, h2⟩ := ih c g z la (upd ow d 0) (by omega) (by omega) (by omega) hc (fun m hm1 hm2 => hmax m hm1 (by omega)) (fun j hj1 hj2 => by
        by_cases ej : j = d
        · rw [ej, p_upd_s]
          exact Or.inr ⟨rfl, hno⟩
        · rw [p_upd_n ej]
          exact hm j (by omega) hj2)
      refine ⟨ow', ?_, h2⟩
      have hne : ¬ nI d = nI c + (-1) := by
        rcases Nat.eq_zero_or_pos c with h0 | h0
        · rw [h0]
          intro q
          have := p_m1 (n := d) (by omega)
          rw [q] at this
          exact cast this (by decide)
        · rw [p_d1 h0]
          exact p_ne (by omega) (by omega) (by omega)
      rw [jf_Transcript_findLasts_b20, p_d1 (n := d + 1) (by omega), Nat.add_sub_cancel, if_neg (p_n0 (by omega)), if_neg hne, jf_Transcript_findLasts_b39, p_ga (by omega) (by omega), if_neg hne, p_cl (by omega), jf_Transcript_findLasts_b56]
      exact h1
/-- from the start on: owners and lasts -/
theorem fill_loop {n : Nat} (hn : n ≤ 300) : ∀ (d i c g : Nat) (la ow : Nat → Int32), i + d = n → d < g → c ≤ i → c ∈ sts ne sc st row n → (∀ m, m ∈ sts ne sc st row n → m ≤ i → m ≤ c) → tlk ne sc st row la c → own ne sc st row ow c → (∀ j, c ≤ j → j < i → ow j = nI (RD ne sc st row c).length) → (∀ j, i ≤ j → j < n → (ow j = 1 ∧ j + 1 ∈ sts ne sc st row n) ∨ (ow j = 0 ∧ ¬ j + 1 ∈ sts ne sc st row n)) → ∃ la' ow', jf_Transcript_findLasts_b69 g (nI n) (nI i) (nI (RD ne sc st row c).length) la ow = some (nI (RD ne sc st row n).length, la', ow') ∧ tlk ne sc st row la' n ∧ own ne sc st row ow' n := by
  intro d
  induction d with
  | zero =>
    intro i c g la ow hi hg hci hc hmax ht ho hoc hm
    obtain ⟨g, rfl⟩ : ∃ y, g = y + 1 := ⟨g - 1, by omega⟩
    have hcn : c = n := by
      have := hmax n sts_self (by omega)
      omega
    subst hcn
    exact ⟨la, ow, by rw [jf_Transcript_findLasts_b69, if_pos (p_yle (by omega) (by omega))], ht, ho⟩
  | succ d ih =>
    intro i c g la ow hi hg hci hc hmax ht ho hoc hm
    obtain ⟨g, rfl⟩ : ∃ y, g = y + 1 := ⟨g - 1, by omega⟩
    have hlen := RD_len (ne := ne) (sc := sc) (st := st) (row := row) c
    have hstart : jf_Transcript_findLasts_b69 (g + 1) (nI n) (nI i) (nI (RD ne sc st row c).length) la ow = if ow i = 1 then jf_Transcript_findLasts_b69 g (nI n) (nI (i + 1)) (nI ((RD ne sc st row c).length + 1)) (upd la (RD ne sc st row c).length (nI i)) (upd ow i (nI (RD ne sc st row c).length)) else jf_Transcript_findLasts_b69 g (nI n) (nI (i + 1)) (nI (RD ne sc st row c).length) la (upd ow i (nI (RD ne sc st row c).length)) := by
      rw [jf_Transcript_findLasts_b69, if_neg (p_nle (by omega) (by omega)), p_ga (by omega) (by omega), p_cl (by omega)]
      by_cases h1 : ow i = 1
      · rw [if_pos h1, if_pos h1, jf_Transcript_findLasts_b89, p_ga (by omega) (by omega), if_neg (by decide), p_ga (by omega) (by omega), jf_Transcript_findLasts_b126, nI_1, nI_1, p_cl (by omega), p_cl (by omega)]
      · rw [if_neg h1, if_neg h1, jf_Transcript_findLasts_b89, p_ga (by omega) (by omega), if_pos rfl, jf_Transcript_findLasts_b126, nI_1, p_cl (by omega)]
    rw [hstart]
    rcases hm i (Nat.le_refl i) (by omega) with ⟨m1, m2⟩ | ⟨m1, m2⟩
    · rw [if_pos m1]
      obtain ⟨f, e, hf, hR⟩ := RD_top (ne := ne) (sc := sc) (st := st) (row := row) (n := i + 1) (by omega)
      have hsi := sts_c hR
      have hfn : f ∈ sts ne sc st row n := sts_trans n (i + 1) f m2 (by rw [hsi]; exact List.mem_cons_of_mem _ sts_self)
      have hfc : f = c := by
        have h1 := hmax f hfn (by omega)
        have h2 := sts_split n (i + 1) c m2 hc (by omega)
        rw [hsi] at h2
        rcases List.mem_cons.mp h2 with q | q
        · omega
        · have := sts_le q
          omega
      rw [hfc] at hR hsi
      have hl1 : (RD ne sc st row (i + 1)).length = (RD ne sc st row c).length + 1 := by rw [hR, List.length_cons]
      rw [← hl1]
      refine ih (i + 1) (i + 1) g _ _ (by omega) (by omega) (Nat.le_refl _) m2 (fun m _ h => h) ?_ ?_ (fun j h1 h2 => by omega) (fun j h1 h2 => ?_)
      · intro c2 f2 e2 hc2 hR2
        rw [hsi] at hc2
        rcases List.mem_cons.mp hc2 with q | q
        · rw [q, hR] at hR2
          injection hR2 with ha hb
          injection ha with hx hy
          rw [← hx, p_upd_s, q, Nat.add_sub_cancel]
        · have hlt : (RD ne sc st row f2).length < (RD ne sc st row c).length := by
            have h3 := sts_split c c2 c2 q q (Nat.le_refl _)
            have key : ∀ (a b : Nat), b ∈ sts ne sc st row a → (RD ne sc st row b).length ≤ (RD ne sc st row a).length := by
              intro a
              induction a using Nat.strongRecOn with
              | _ a iha =>
                intro b hb
                rcases Nat.eq_zero_or_pos a with h0 | h0
                · rw [h0, sts_0, List.mem_singleton] at hb
                  rw [hb, h0]
                  exact Nat.le_refl _
                · obtain ⟨fa0, ea0, hfa0, hRa⟩ := RD_top (ne := ne) (sc := sc) (st := st) (row := row) h0
                  rw [sts_c hRa] at hb
                  rcases List.mem_cons.mp hb with q | q
                  · rw [q]; exact Nat.le_refl _
                  · have := iha fa0 hfa0 b q
                    rw [hRa, List.length_cons]
                    omega
            have h4 := key c c2 q
            rw [hR2, List.length_cons] at h4
            omega
          rw [p_upd_n (by omega)]
          exact ht c2 f2 e2 q hR2
      · intro c2 f2 e2 hc2 hR2 j h1 h2
        rw [hsi] at hc2
        rcases List.mem_cons.mp hc2 with q | q
        · rw [q, hR] at hR2
          injection hR2 with ha hb
          injection ha with hx hy
          rw [← hx]
          by_cases ej : j = i
          · rw [ej, p_upd_s]
          · rw [p_upd_n ej]
            exact hoc j (by omega) (by omega)
        · have := sts_le q
          rw [p_upd_n (by omega)]
          exact ho c2 f2 e2 q hR2 j h1 h2
      · rw [p_upd_n (by omega)]
        exact hm j (by omega) h2
    · rw [if_neg (by rw [m1]; decide)]
      refine ih (i + 1) c g _ _ (by omega) (by omega) (by omega) hc (fun m h1 h2 => ?_) ht ?_ (fun j h1 h2 => ?_) (fun j h1 h2 => ?_)
      · by_cases em : m = i + 1
        · rw [em] at h1
          exact absurd h1 m2
        · exact hmax m h1 (by omega)
      · intro c2 f2 e2 hc2 hR2 j h1 h2
        have := sts_le hc2
        rw [p_upd_n (by omega)]
        exact ho c2 f2 e2 hc2 hR2 j h1 h2
      · by_cases ej : j = i
        · rw [ej, p_upd_s]
        · rw [p_upd_n ej]
          exact hoc j h1 (by omega)
      · rw [p_upd_n (by omega)]
        exact hm j (by omega) h2
theorem findLasts_ok {N n : Nat} {z : Int32} {fa ea la ow : Nat → Int32} (hN : 400 ≤ N) (hn : n ≤ 300) (hI : rdI ne sc st row n fa ea) : ∃ la' ow', jf_Transcript_findLasts N (nI n) fa z la ow = some (nI (RD ne sc st row n).length, la', ow') ∧ tlk ne sc st row la' n ∧ own ne sc st row ow' n := by
  obtain ⟨ow1, h1, h2⟩ := mark_loop (N := N) hn hI n n N z la ow (Nat.le_refl n) (by omega) (Nat.le_refl n) sts_self (fun m _ h => h) (fun j q1 q2 => by omega)
  have h0 : 0 ∈ sts ne sc st row n := by
    have : ∀ (n : Nat), 0 ∈ sts ne sc st row n := by
      intro n
      induction n using Nat.strongRecOn with
      | _ n ih =>
        rcases Nat.eq_zero_or_pos n with z | z
        · rw [z, sts_0]; exact List.mem_singleton.mpr rfl
        · obtain ⟨f, e, hf, hR⟩ := RD_top (ne := ne) (sc := sc) (st := st) (row := row) z
          rw [sts_c hR]
          exact List.mem_cons_of_mem _ (ih f hf)
    exact this n
  have hR0 : RD ne sc st row 0 = [] := by rw [RD]
  obtain ⟨la', ow', h3, h4, h5⟩ := fill_loop (ne := ne) (sc := sc) (st := st) (row := row) hn n 0 0 N la ow1 (by omega) (by omega) (Nat.le_refl 0) h0 (fun m _ h => h) (fun c f e hc hR => by
    rw [sts_0, List.mem_singleton] at hc
    rw [hc, hR0] at hR
    cases hR) (fun c f e hc hR => by
    rw [sts_0, List.mem_singleton] at hc
    rw [hc, hR0] at hR
    cases hR) (fun j q1 q2 => by omega) (fun j _ hj => h2 j hj)
  refine ⟨la', ow', ?_, h4, h5⟩
  rw [hR0] at h3
  rw [jf_Transcript_findLasts, jf_Reading_size, Option.bind_some, if_neg (show ¬ (300 : Int32) < nI n from (show ¬ nI 300 < nI n from p_nlt (by omega) (by omega))), p_sm, h1, jf_Transcript_findLasts_b62]
  exact h3
end TL
