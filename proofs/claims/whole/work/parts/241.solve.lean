/-! the class's chain of best ways -/
section SV
variable {N ne : Nat} {kd : Nat → Int32} {sc : Nat → Nat} {st : Nat → Int32} {ln : Nat → Nat} {tx ask : Nat → Int32} {inn lst : Int32} {to : Nat}
theorem cth_le {B : Nat → Wy} {p k s m : Nat} (h : cth kd sc ln tx ask inn lst to B p k = some (s, m)) : p + ln k ≤ to := by
  unfold cth at h
  by_cases e1 : p + ln k = to
  · omega
  · rw [if_neg e1] at h
    by_cases e3 : to < p + ln k
    · rw [if_pos e3] at h; cases h
    · omega
theorem cth_b {d p k s m : Nat} (hb : bkL ne kd sc ln inn lst) (hp : p + (d + 1) = to) (hk : k < ne) (h : cth kd sc ln tx ask inn lst to (BF kd sc ln tx ask inn lst to ne d) p k = some (s, m)) : s ≤ 5 * (to - p) ∧ 1 ≤ m ∧ m ≤ to - p := by
  obtain ⟨b1, b2, b3⟩ := hb k hk
  unfold cth at h
  by_cases e1 : p + ln k = to
  · rw [if_pos e1] at h
    by_cases e2 : kd k = lst
    · rw [if_pos e2] at h
      cases h
      omega
    · rw [if_neg e2] at h; cases h
  · rw [if_neg e1] at h
    by_cases e3 : to < p + ln k
    · rw [if_pos e3] at h; cases h
    · rw [if_neg e3] at h
      by_cases e4 : kd k = inn
      · rw [if_pos e4] at h
        have hl := b3 (Or.inl e4)
        cases hB : BF kd sc ln tx ask inn lst to ne d (p + ln k) with
        | none => rw [hB] at h; cases h
        | some w =>
          obtain ⟨s', m', k'⟩ := w
          rw [hB] at h
          cases h
          obtain ⟨w1, w2, w3, w4, w5, w6, w7, -⟩ := BF_ok hb d (by omega) _ _ _ _ hB
          omega
      · rw [if_neg e4] at h; cases h
theorem fld_b {d p K s m k : Nat} (hb : bkL ne kd sc ln inn lst) (hp : p + (d + 1) = to) (hK : K ≤ ne) (h : fld kd sc ln tx ask inn lst to (BF kd sc ln tx ask inn lst to ne d) p K = some (s, m, k)) : k < K ∧ s ≤ 5 * (to - p) ∧ 1 ≤ m ∧ m ≤ to - p := by
  obtain ⟨h1, h2⟩ := fld_s K h
  obtain ⟨-, h3⟩ := cnd_s h2
  exact ⟨h1, cth_b hb hp (by omega) h3⟩
theorem fld_sm {d p K : Nat} (hb : bkL ne kd sc ln inn lst) (hne : ne ≤ 60) (hto : to ≤ 60) (hp : p + (d + 1) = to) (hK : K ≤ ne) : smW (fld kd sc ln tx ask inn lst to (BF kd sc ln tx ask inn lst to ne d) p K) := by
  intro s m k h
  obtain ⟨h1, h2, h3, h4⟩ := fld_b hb hp hK h
  omega
theorem BF_sm {d q : Nat} (hb : bkL ne kd sc ln inn lst) (hne : ne ≤ 60) (hto : to ≤ 60) (hd : d ≤ to) : smW (BF kd sc ln tx ask inn lst to ne d q) := by
  intro s m k h
  obtain ⟨w1, w2, w3, w4, w5, w6, w7, -⟩ := BF_ok hb d hd _ _ _ _ h
  omega
/-- the class's rows of entries -/
def rwC (ne : Nat) (kd : Nat → Int32) (sc ln : Nat → Nat) (tx ak asc al ax : Nat → Int32) : Prop := ∀ k, k < ne → ak k = kd k ∧ asc k = nI (sc k) ∧ al k = nI (ln k) ∧ ∀ i, i < ln k → ax (16 * k + i) = tx (16 * k + i)
theorem pick_loop {d p : Nat} {ak asc al ax : Nat → Int32} (hN : 100 ≤ N) (hne : ne ≤ 60) (hto : to ≤ 60) (hb : bkL ne kd sc ln inn lst) (hp : p + (d + 1) = to) (hA : rwC ne kd sc ln tx ak asc al ax) : ∀ (e K g : Nat) (co pi : Nat → Int32), K + e = ne → e < g → (∀ q, p < q → q < to → co q = nI (encW (BF kd sc ln tx ask inn lst to ne d q))) → co p = nI (encW (fld kd sc ln tx ask inn lst to (BF kd sc ln tx ask inn lst to ne d) p K)) → pi p = pckW (fld kd sc ln tx ask inn lst to (BF kd sc ln tx ask inn lst to ne d) p K) → ∃ co' pi', jf_Chain_pickFor_b18 N (nI p) (nI to) 60 inn lst (nI ne) ask ak al ax asc g (nI K) co pi = some (co', pi') ∧ co' p = nI (encW (fld kd sc ln tx ask inn lst to (BF kd sc ln tx ask inn lst to ne d) p ne)) ∧ pi' p = pckW (fld kd sc ln tx ask inn lst to (BF kd sc ln tx ask inn lst to ne d) p ne) ∧ ∀ q, q ≠ p → co' q = co q ∧ pi' q = pi q := by
  intro e
  induction e with
  | zero =>
    intro K g co pi hK hg hq hc hpi
    obtain ⟨g, rfl⟩ : ∃ y, g = y + 1 := ⟨g - 1, by omega⟩
    have : K = ne := by omega
    subst this
    refine ⟨co, pi, ?_, hc, hpi, fun q _ => ⟨rfl, rfl⟩⟩
    rw [jf_Chain_pickFor_b18, jf_Book_size, Option.bind_some, if_pos (p_yle (by omega) (by omega))]
  | succ e ih =>
    intro K g co pi hK hg hq hc hpi
    obtain ⟨g, rfl⟩ : ∃ y, g = y + 1 := ⟨g - 1, by omega⟩
    have hKn : K < ne := by omega
    obtain ⟨a1, a2, a3, a4⟩ := hA K hKn
    obtain ⟨b1, b2, b3⟩ := hb K hKn
    have hsm := fld_sm (tx := tx) (ask := ask) hb hne hto hp (K := K) (by omega)
    obtain ⟨n1, n2⟩ := smW_enc hsm
    have hcost := cth_ok (B := BF kd sc ln tx ask inn lst to ne d) (p := p) (k := K) (ak := ak) (asc := asc) (co := co) (tx := tx) (ask := ask) hne hKn hto (by omega) hb a1 a2 (fun q _ _ => BF_sm hb hne hto (by omega)) hq
    have skip : fld kd sc ln tx ask inn lst to (BF kd sc ln tx ask inn lst to ne d) p (K + 1) = fld kd sc ln tx ask inn lst to (BF kd sc ln tx ask inn lst to ne d) p K → ∃ co' pi', jf_Chain_pickFor_b100 (jf_Chain_pickFor_b18 N (nI p) (nI to) 60 inn lst (nI ne) ask ak al ax asc g) (nI K) co pi = some (co', pi') ∧ co' p = nI (encW (fld kd sc ln tx ask inn lst to (BF kd sc ln tx ask inn lst to ne d) p ne)) ∧ pi' p = pckW (fld kd sc ln tx ask inn lst to (BF kd sc ln tx ask inn lst to ne d) p ne) ∧ ∀ q, q ≠ p → co' q = co q ∧ pi' q = pi q := by
      intro h
      rw [jf_Chain_pickFor_b100, nI_1]
      exact ih (K + 1) g co pi (by omega) (by omega) hq (by rw [h]; exact hc) (by rw [h]; exact hpi)
    rw [jf_Chain_pickFor_b18, jf_Book_size, Option.bind_some, if_neg (p_nle (by omega) (by omega)), Book_lengthOf_in hKn hne, Option.bind_some, a3, nI_add, hcost, Option.bind_some, p_ga (by omega) (by omega), p_cl (by omega), hc]
    cases hcs : cth kd sc ln tx ask inn lst to (BF kd sc ln tx ask inn lst to ne d) p K with
    | none =>
      rw [if_pos (p_yle (by rw [encC]; exact n1) (by rw [encC]; omega))]
      refine skip ?_
      rw [fld, cnd_th hcs]
      rfl
    | some c =>
      obtain ⟨s, m⟩ := c
      have hle := cth_le hcs
      obtain ⟨c1, c2, c3⟩ := cth_b hb hp hKn hcs
      obtain ⟨e1, e2⟩ := bett_enc (w := fld kd sc ln tx ask inn lst to (BF kd sc ln tx ask inn lst to ne d) p K) (s := s) (m := m) (K := K) hsm (fun s' m' k' h => (fld_b hb hp (by omega) h).1) (by omega) (by omega) (by omega)
      rw [encC]
      by_cases hcmp : encW (fld kd sc ln tx ask inn lst to (BF kd sc ln tx ask inn lst to ne d) p K) ≤ (s * 64 + m) * 64 + K
      · rw [if_pos (p_yle hcmp (by omega))]
        refine skip ?_
        rw [fld]
        by_cases hl : lets tx ask K (ln K) p
        · rw [cnd_y hl, hcs, e1 hcmp]
        · rw [cnd_n hl]
          rfl
      · obtain ⟨z, z1, z2, z3⟩ := letAt_ok (N := N) (ask := ask) (al := al) (ax := ax) (n := ln K) (p := p) hN hne hKn a3 (Nat.le_refl _) b2 (by omega) a4
        rw [if_neg (p_nle (by omega) (by omega)), Option.bind_some, z1, Option.bind_some]
        by_cases hl : lets tx ask K (ln K) p
        · have hf : fld kd sc ln tx ask inn lst to (BF kd sc ln tx ask inn lst to ne d) p (K + 1) = some (s, m, K) := by rw [fld, cnd_y hl, hcs, e2 hcmp]
          rw [z2 hl, if_neg (by decide), p_ga (by omega) (by omega), p_ga (by omega) (by omega), jf_Chain_pickFor_b100, nI_1]
          obtain ⟨co', pi', r1, r2, r3, r4⟩ := ih (K + 1) g (upd co p (nI ((s * 64 + m) * 64 + K))) (upd pi p (nI K)) (by omega) (by omega) (fun q h1 h2 => by rw [p_upd_n (by omega)]; exact hq q h1 h2) (by rw [p_upd_s, hf, encW]) (by rw [p_upd_s, hf, pckW])
          exact ⟨co', pi', r1, r2, r3, fun q h => by
            obtain ⟨w1, w2⟩ := r4 q h
            rw [p_upd_n h] at w1 w2
            exact ⟨w1, w2⟩⟩
        · rw [z3 hl, if_pos rfl]
          refine skip ?_
          rw [fld, cnd_n hl]
          rfl
theorem pickFor_ok {d p : Nat} {ak asc al ax co pi : Nat → Int32} (hN : 100 ≤ N) (hne : ne ≤ 60) (hto : to ≤ 60) (hb : bkL ne kd sc ln inn lst) (hp : p + (d + 1) = to) (hA : rwC ne kd sc ln tx ak asc al ax) (hq : ∀ q, p < q → q < to → co q = nI (encW (BF kd sc ln tx ask inn lst to ne d q)) ∧ pi q = pckW (BF kd sc ln tx ask inn lst to ne d q)) : ∃ co' pi', jf_Chain_pickFor N (nI p) (nI to) 60 inn lst (nI ne) ask ak al ax asc co pi = some (co', pi') ∧ ∀ q, p ≤ q → q < to → co' q = nI (encW (BF kd sc ln tx ask inn lst to ne (d + 1) q)) ∧ pi' q = pckW (BF kd sc ln tx ask inn lst to ne (d + 1) q) := by
  obtain ⟨co', pi', r1, r2, r3, r4⟩ := pick_loop (co := upd co p 2147483647) (pi := upd pi p (-1)) (ask := ask) (tx := tx) (N := N) hN hne hto hb hp hA ne 0 N (by omega) (by omega) (fun q h1 h2 => by rw [p_upd_n (by omega)]; exact (hq q h1 h2).1) (by rw [p_upd_s, fld]; rfl) (by rw [p_upd_s, fld]; rfl)
  refine ⟨co', pi', ?_, fun q h1 h2 => ?_⟩
  · rw [jf_Chain_pickFor, p_ga (by omega) (by omega), p_ga (by omega) (by omega), p_cl (by omega)]
    exact r1
  · by_cases e : q = p
    · subst e
      have hat : BF kd sc ln tx ask inn lst to ne (d + 1) q = fld kd sc ln tx ask inn lst to (BF kd sc ln tx ask inn lst to ne d) q ne := by
        have := BF_at (ne := ne) (kd := kd) (sc := sc) (ln := ln) (tx := tx) (ask := ask) (inn := inn) (lst := lst) (to := to) (d := d)
        rw [show to - (d + 1) = q by omega] at this
        exact this
      rw [hat]
      exact ⟨r2, r3⟩
    · obtain ⟨w1, w2⟩ := r4 q e
      rw [p_upd_n e] at w1 w2
      rw [BF_ot (by omega), w1, w2]
      exact hq q (by omega) h2
theorem solve_loop {fr : Nat} {ak asc al ax : Nat → Int32} (hN : 100 ≤ N) (hne : ne ≤ 60) (hto : to ≤ 60) (hfr : fr < to) (hb : bkL ne kd sc ln inn lst) (hA : rwC ne kd sc ln tx ak asc al ax) : ∀ (n e g : Nat) (co pi : Nat → Int32), e = fr + n → n < g → e ≤ to → (∀ q, e ≤ q → q < to → co q = nI (encW (BF kd sc ln tx ask inn lst to ne (to - e) q)) ∧ pi q = pckW (BF kd sc ln tx ask inn lst to ne (to - e) q)) → ∃ co' pi', jf_Chain_solve_b23 N (nI fr) (nI to) 60 inn lst (nI ne) ask ak al ax asc g (nI e - 1) co pi = some (nI (encW (BF kd sc ln tx ask inn lst to ne (to - fr) fr)), co', pi') ∧ ∀ q, fr ≤ q → q < to → pi' q = pckW (BF kd sc ln tx ask inn lst to ne (to - fr) q) := by
  intro n
  induction n with
  | zero =>
    intro e g co pi he hg hle hq
    obtain ⟨g, rfl⟩ : ∃ y, g = y + 1 := ⟨g - 1, by omega⟩
    have : e = fr := by omega
    subst this
    refine ⟨co, pi, ?_, fun q h1 h2 => (hq q h1 h2).2⟩
    have hlt : nI e - 1 < nI e := by
      rcases Nat.eq_zero_or_pos e with h0 | h0
      · subst h0; decide
      · rw [p_s1 h0]; exact p_ylt (by omega) (by omega)
    rw [jf_Chain_solve_b23, if_pos hlt, jf_Chain_solve_b43, p_ga (by omega) (by omega), p_cl (by omega), (hq e (Nat.le_refl e) hfr).1]
  | succ n ih =>
    intro e g co pi he hg hle hq
    obtain ⟨g, rfl⟩ : ∃ y, g = y + 1 := ⟨g - 1, by omega⟩
    obtain ⟨co1, pi1, r1, r2⟩ := pickFor_ok (N := N) (ask := ask) (tx := tx) (co := co) (pi := pi) (d := to - e) (p := e - 1) hN hne hto hb (by omega) hA (fun q h1 h2 => hq q (by omega) h2)
    obtain ⟨co', pi', r3, r4⟩ := ih (e - 1) g co1 pi1 (by omega) (by omega) (by omega) (fun q h1 h2 => by
      rw [show to - (e - 1) = to - e + 1 by omega]
      exact r2 q h1 h2)
    refine ⟨co', pi', ?_, r4⟩
    rw [jf_Chain_solve_b23, p_s1 (by omega), if_neg (p_nlt (by omega) (by omega)), r1, Option.bind_some]
    dsimp only
    rw [← p_sm]
    exact r3
theorem solve_ok {fr : Nat} {ak asc al ax co pi : Nat → Int32} (hN : 100 ≤ N) (hne : ne ≤ 60) (hto : to ≤ 60) (hfr : fr < to) (hb : bkL ne kd sc ln inn lst) (hA : rwC ne kd sc ln tx ak asc al ax) : ∃ co' pi', jf_Chain_solve N (nI fr) (nI to) 60 inn lst (nI ne) ask ak al ax asc co pi = some (nI (encW (BF kd sc ln tx ask inn lst to ne (to - fr) fr)), co', pi') ∧ ∀ q, fr ≤ q → q < to → pi' q = pckW (BF kd sc ln tx ask inn lst to ne (to - fr) q) := by
  obtain ⟨co', pi', r1, r2⟩ := solve_loop (N := N) (ask := ask) (tx := tx) hN hne hto hfr hb hA (to - fr) to N co pi (by omega) (by omega) (Nat.le_refl to) (fun q h1 h2 => by omega)
  refine ⟨co', pi', ?_, r2⟩
  rw [jf_Chain_solve, if_neg (p_n0 (by omega)), if_neg (p_nle (by omega) (by omega)), if_pos (show nI to ≤ 60 from p_yle (b := 60) hto (by omega))]
  exact r1
end SV
/-- the entries of the best way from p on -/
def wyl (ln : Nat → Nat) (B : Nat → Wy) : Nat → Nat → List Nat
  | 0, _ => []
  | f + 1, p => match B p with
    | none => []
    | some (_, _, k) => k :: wyl ln B f (p + ln k)
def sumS (sc : Nat → Nat) : List Nat → Nat
  | [] => 0
  | k :: ks => sc k + sumS sc ks
section WL
variable {N ne : Nat} {kd : Nat → Int32} {sc : Nat → Nat} {st : Nat → Int32} {ln : Nat → Nat} {tx ask : Nat → Int32} {inn lst : Int32} {to : Nat}
theorem BF_to {d : Nat} (hb : bkL ne kd sc ln inn lst) (hd : d ≤ to) : BF kd sc ln tx ask inn lst to ne d to = none := by
  cases h : BF kd sc ln tx ask inn lst to ne d to with
  | none => rfl
  | some w =>
    obtain ⟨s, m, k⟩ := w
    obtain ⟨w1, w2, w3, w4, w5, w6, w7, -⟩ := BF_ok hb d hd _ _ _ _ h
    omega
theorem wyl_ok {d : Nat} (hb : bkL ne kd sc ln inn lst) (hd : d ≤ to) : ∀ (f p s m k : Nat), to - p ≤ f → BF kd sc ln tx ask inn lst to ne d p = some (s, m, k) → ∃ l, wyl ln (BF kd sc ln tx ask inn lst to ne d) f p = k :: l ∧ (k :: l).length = m ∧ sumS sc (k :: l) = s ∧ ∀ j, j ∈ k :: l → j < ne := by
  intro f
  induction f with
  | zero =>
    intro p s m k hf h
    obtain ⟨w1, w2, w3, w4, w5, w6, w7, -⟩ := BF_ok hb d hd _ _ _ _ h
    omega
  | succ f ih =>
    intro p s m k hf h
    obtain ⟨w1, w2, w3, w4, w5, w6, w7, w8⟩ := BF_ok hb d hd _ _ _ _ h
    have hu : wyl ln (BF kd sc ln tx ask inn lst to ne d) (f + 1) p = k :: wyl ln (BF kd sc ln tx ask inn lst to ne d) f (p + ln k) := by rw [wyl, h]
    rcases w8 with ⟨x1, x2, x3, x4⟩ | ⟨x1, x2, s', m', k', x3, x4, x5⟩
    · have hn : wyl ln (BF kd sc ln tx ask inn lst to ne d) f (p + ln k) = [] := by
        rw [x1]
        cases f with
        | zero => rfl
        | succ f => rw [wyl, BF_to hb hd]
      refine ⟨[], by rw [hu, hn], by rw [x4]; rfl, by rw [x3]; rfl, fun j hj => by rw [List.mem_singleton.mp hj]; exact w1⟩
    · obtain ⟨l, l1, l2, l3, l4⟩ := ih (p + ln k) s' m' k' (by omega) x3
      refine ⟨k' :: l, by rw [hu, l1], by rw [List.length_cons, l2]; omega, by rw [sumS, l3, x4], fun j hj => ?_⟩
      rcases List.mem_cons.mp hj with q | q
      · rw [q]; exact w1
      · exact l4 j q
/-- the rest of a best way -/
theorem wyl_next {d f p s m k : Nat} (h : BF kd sc ln tx ask inn lst to ne d p = some (s, m, k)) : wyl ln (BF kd sc ln tx ask inn lst to ne d) (f + 1) p = k :: wyl ln (BF kd sc ln tx ask inn lst to ne d) f (p + ln k) := by rw [wyl, h]
theorem wyl_fuel {d : Nat} (hb : bkL ne kd sc ln inn lst) (hd : d ≤ to) : ∀ (f g p : Nat), to - p ≤ f → to - p ≤ g → wyl ln (BF kd sc ln tx ask inn lst to ne d) f p = wyl ln (BF kd sc ln tx ask inn lst to ne d) g p := by
  intro f
  induction f with
  | zero =>
    intro g p h1 h2
    have hn : BF kd sc ln tx ask inn lst to ne d p = none := by
      cases h : BF kd sc ln tx ask inn lst to ne d p with
      | none => rfl
      | some w =>
        obtain ⟨s, m, k⟩ := w
        obtain ⟨w1, w2, w3, w4, w5, w6, w7, -⟩ := BF_ok hb d hd _ _ _ _ h
        omega
    cases g with
    | zero => rfl
    | succ g => rw [wyl, wyl, hn]
  | succ f ih =>
    intro g p h1 h2
    cases h : BF kd sc ln tx ask inn lst to ne d p with
    | none =>
      cases g with
      | zero => rw [wyl, wyl, h]
      | succ g => rw [wyl, wyl, h]
    | some w =>
      obtain ⟨s, m, k⟩ := w
      obtain ⟨w1, w2, w3, w4, w5, w6, w7, -⟩ := BF_ok hb d hd _ _ _ _ h
      obtain ⟨g, rfl⟩ : ∃ y, g = y + 1 := ⟨g - 1, by omega⟩
      rw [wyl_next h, wyl_next h, ih g (p + ln k) (by omega) (by omega)]
end WL
