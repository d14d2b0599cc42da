/-! promise 3 on both sides -/
theorem tape_wiped {t : Nat} {cs ms : Int32} {cb mb : Nat → Int32} (h : tpR t cs cb ms mb) : tpR 0 0 cb 0 mb := ⟨by omega, nI_0.symm, nI_0.symm, fun i hi => by omega⟩
theorem mt_st {sc : Nat → Nat} {st ss row row' : Nat → Int32} {f f' n k : Nat} (h1 : sc k = n → ∀ i, i < n → ss (5 * k + i) = st (5 * k + i)) (h2 : ∀ i, i < n → row (f + i) = row' (f' + i)) : mt sc st row f n k ↔ mt sc ss row' f' n k := by
  unfold mt
  constructor
  · intro h
    refine ⟨h.1, fun i hi => ?_⟩
    rw [h1 h.1 i hi, h.2 i hi, h2 i hi]
  · intro h
    refine ⟨h.1, fun i hi => ?_⟩
    rw [← h1 h.1 i hi, h.2 i hi, h2 i hi]
set_option maxHeartbeats 2000000 in
/-- the reference behind the bytes, with an outline of n strokes -/
theorem b89_ok {N : Nat} {a b c d e k : Int32} {n l ne : Nat} {o0 : Nat → Int32} {kd : Nat → Int32} {sc : Nat → Nat} {st : Nat → Int32} {ln : Nat → Nat} {tx : Nat → Int32} {tp : Int32} {ak asm ass tk atm atx : Nat → Int32} (hN : 100 ≤ N) (hlo : lo (outF o0 a b c d e) 5 0 0 = n) (h0 : n ≠ 0) (hl16 : l ≤ 16) (hB : ∀ i, i < l → isB (tk i)) (hM : bkC ne kd sc st ln tx (nI ne) ak asm ass atm atx) (hV : bkV ne kd sc st ln tx) :
    ((ne = 60 ∨ ∃ m, m < ne ∧ mt sc st (outF o0 a b c d e) 0 n m) → ∃ asm' ass', jf_Model_entry_b89 N a b c d e k (nI l) tp (nI ne) ak asm ass tk atm atx = some (-1, tp, nI ne, ak, asm', ass', tk, atm, atx) ∧ bkC ne kd sc st ln tx (nI ne) ak asm' ass' atm atx) ∧
    (ne < 60 → (∀ m, m < ne → ¬ mt sc st (outF o0 a b c d e) 0 n m) → ∃ atx', jf_Model_entry_b89 N a b c d e k (nI l) tp (nI ne) ak asm ass tk atm atx = some (nI ne, tp, nI (ne + 1), upd ak ne k, laySM asm ne a b c d e, laySS ass ne a b c d e, tk, upd atm ne (nI l), atx') ∧ (∀ j, j < l → atx' (16 * ne + j) = tk j) ∧ (∀ m, (m < 16 * ne ∨ 16 * ne + l ≤ m) → atx' m = atx m)) := by
  obtain ⟨hs5, -, -, -⟩ := lo_spec (o := outF o0 a b c d e) 5 0 0 (Nat.le_refl 0) (by omega) (by omega) (by omega)
  rw [hlo] at hs5
  have hne := hV.1
  by_cases h60 : ne = 60
  · subst h60
    refine ⟨fun _ => ⟨asm, ass, ?_, hM⟩, fun h => by omega⟩
    rw [jf_Model_entry_b89, if_pos (show nI 60 = 60 from rfl)]
  have hlt : ne < 60 := by omega
  have hkeep : bkC ne kd sc st ln tx (nI ne) ak (laySM asm ne a b c d e) (laySS ass ne a b c d e) atm atx := by
    refine ⟨rfl, fun j hj => ?_⟩
    obtain ⟨q1, q2, q3, q4, q5⟩ := hM.2 j hj
    refine ⟨q1, by rw [laySM_o (by omega)]; exact q2, q3, fun i hi => ?_, q5⟩
    have := (hV.2.1 j hj).2.2.1
    rw [laySS_o (by omega)]
    exact q4 i hi
  have heq : jf_Model_entry_b89 N a b c d e k (nI l) tp (nI ne) ak asm ass tk atm atx = (jf_Model_entryOf_strokes N (nI (5 * ne)) (nI n) (nI ne) (laySM asm ne a b c d e) (laySS ass ne a b c d e)).bind (fun r152 => if r152 = (-1) then jf_Model_entry_b186 (nI l) N 0 tp (nI ne) (upd ak ne k) (laySM asm ne a b c d e) (laySS ass ne a b c d e) tk (upd atm ne (nI l)) atx else some (-1, tp, nI ne, ak, laySM asm ne a b c d e, laySS ass ne a b c d e, tk, atm, atx)) := by
    have l0 : ∀ (v : Int32) (x y : Nat → Int32), jf_Model_lays 0 v (nI ne) x y = some ((if v = 0 then x else upd x ne (nI 1)), upd y (5 * ne + 0) v) := fun v x y => lays_ok (i := 0) (by omega) hne
    have l1 : ∀ (v : Int32) (x y : Nat → Int32), jf_Model_lays 1 v (nI ne) x y = some ((if v = 0 then x else upd x ne (nI 2)), upd y (5 * ne + 1) v) := fun v x y => lays_ok (i := 1) (by omega) hne
    have l2 : ∀ (v : Int32) (x y : Nat → Int32), jf_Model_lays 2 v (nI ne) x y = some ((if v = 0 then x else upd x ne (nI 3)), upd y (5 * ne + 2) v) := fun v x y => lays_ok (i := 2) (by omega) hne
    have l3 : ∀ (v : Int32) (x y : Nat → Int32), jf_Model_lays 3 v (nI ne) x y = some ((if v = 0 then x else upd x ne (nI 4)), upd y (5 * ne + 3) v) := fun v x y => lays_ok (i := 3) (by omega) hne
    have l4 : ∀ (v : Int32) (x y : Nat → Int32), jf_Model_lays 4 v (nI ne) x y = some ((if v = 0 then x else upd x ne (nI 5)), upd y (5 * ne + 4) v) := fun v x y => lays_ok (i := 4) (by omega) hne
    rw [jf_Model_entry_b89, if_neg (show ¬ nI ne = 60 from p_ne (b := 60) h60 (by omega) (by omega)), l0, Option.bind_some]
    dsimp only
    rw [l1, Option.bind_some]
    dsimp only
    rw [l2, Option.bind_some]
    dsimp only
    rw [l3, Option.bind_some]
    dsimp only
    rw [l4, Option.bind_some]
    dsimp only
    rw [p_ga (by omega) (by omega), p_cl (by omega)]
    show (jf_Model_entryOf_strokes N (nI 5 * nI ne) (laySM asm ne a b c d e ne) (nI ne) (laySM asm ne a b c d e) (laySS ass ne a b c d e)).bind _ = _
    rw [pk_mul, laySM_n hlo h0]
    congr 1
    funext r
    rw [p_ga (by omega) (by omega), p_ga (by omega) (by omega)]
    rfl
  have hmt : ∀ m, m < ne → (mt sc st (outF o0 a b c d e) 0 n m ↔ mt sc (laySS ass ne a b c d e) (laySS ass ne a b c d e) (5 * ne) n m) := by
    intro m hm
    obtain ⟨-, -, -, q4, -⟩ := hkeep.2 m hm
    refine mt_st (fun hs i hi => q4 i (by omega)) (fun i hi => ?_)
    rw [laySS_i (o0 := o0) (by omega), Nat.zero_add]
  have heo := eo_out_strokes (ss := laySS ass ne a b c d e) (sm := laySM asm ne a b c d e) (sc := sc) (N := N) (f := 5 * ne) (n := n) (ne := ne) hne (by omega) (by omega) (by omega) (fun j hj => ⟨(hkeep.2 j hj).2.1, (hV.2.1 j hj).2.2.1⟩) ne 0 N (by omega) (by omega)
  refine ⟨fun h => ⟨laySM asm ne a b c d e, laySS ass ne a b c d e, ?_, hkeep⟩, fun _ hno => ?_⟩
  · obtain ⟨m, hm, hmm⟩ : ∃ m, m < ne ∧ mt sc st (outF o0 a b c d e) 0 n m := by
      rcases h with h | h
      · omega
      · exact h
    obtain ⟨m1, ⟨hm1, hmm1⟩, hleast⟩ := pk_least (fun m => m < ne ∧ mt sc st (outF o0 a b c d e) 0 n m) ⟨m, hm, hmm⟩
    rw [heq, jf_Model_entryOf_strokes]
    rw [show (0 : Int32) = nI 0 from rfl, heo.1 m1 (Nat.zero_le _) hm1 ((hmt m1 hm1).mp hmm1) (fun j _ hj q => hleast j hj ⟨by omega, (hmt j (by omega)).mpr q⟩), Option.bind_some, if_neg (show ¬ nI m1 = -1 from fun q => by have := p_m1 (n := m1) (by omega); rw [← p_neg1] at this; exact cast this q)]
  · obtain ⟨atx', h1, h2, h3⟩ := b186_loop (n := l) (ne := ne) hlt hl16 tk hB l 0 N tp (upd ak ne k) (laySM asm ne a b c d e) (laySS ass ne a b c d e) (upd atm ne (nI l)) atx (by omega) (by omega)
    refine ⟨atx', ?_, fun j hj => h2 j (Nat.zero_le j) hj, fun m hm => h3 m (by omega)⟩
    rw [heq, jf_Model_entryOf_strokes]
    rw [show (0 : Int32) = nI 0 from rfl, heo.2 (fun j _ hj q => hno j hj ((hmt j hj).mpr q)), Option.bind_some, if_pos rfl]
    exact h1
