/-! promise 4 on both sides -/
theorem isB_128 : ∀ n, n < 128 → isB (nI n) := by unfold isB; decide +kernel
theorem bB_nI {k v : Int32} (h : bB k v = true) : ∃ m : Nat, m < 128 ∧ v = nI m := by
  have h1 := bB_small h
  have h0 : ¬ v < 0 := by
    unfold bB at h
    split at h
    · simp only [Bool.or_eq_true, decide_eq_true_eq] at h
      rcases h with ((((h | h) | h) | h) | h) | h <;> rw [h] <;> decide
    · simp only [Bool.and_eq_true, Bool.not_eq_true', decide_eq_false_iff_not] at h
      exact fun q => h.1 (Int32.lt_trans q (by decide))
  obtain ⟨j, hj, e⟩ := nI_of2 (M := 127) (n := 127) (by decide) h0 (Int32.not_lt.mp h1)
  exact ⟨j, by omega, e⟩
theorem bB_isB {k v : Int32} (h : bB k v = true) : isB v := by
  obtain ⟨m, hm, rfl⟩ := bB_nI h
  exact isB_128 m hm
section DROP
variable {k16 : Int32 → Int32 → (Nat → Int32) → (Nat → Int32) → (Nat → Int32) → (Nat → Int32) → (Nat → Int32) → Option (Int32 × Int32 × (Nat → Int32) × (Nat → Int32) × (Nat → Int32) × (Nat → Int32) × (Nat → Int32))}
theorem drop_b105 {j : Nat} (hj : j < 60) {en : Int32} {ak asm ass atm : Nat → Int32} : ∀ (d r g : Nat) (atx : Nat → Int32), r + d = 16 → d < g → ∃ atx', jf_Model_drop_b105 k16 g (nI j) (nI r) en ak asm ass atm atx = k16 (nI (j + 1)) en ak asm ass atm atx' ∧ (∀ m, (m < 16 * j + r ∨ 16 * j + 16 ≤ m) → atx' m = atx m) ∧ (∀ m, 16 * j + r ≤ m → m < 16 * j + 16 → atx' m = vp_nar .byte (atx (m + 16))) := by
  intro d
  induction d with
  | zero =>
    intro r g atx hr hg
    obtain ⟨g, rfl⟩ : ∃ z, g = z + 1 := ⟨g - 1, by omega⟩
    refine ⟨atx, ?_, fun m hm => rfl, fun m h1 h2 => by omega⟩
    rw [jf_Model_drop_b105, if_pos (by rw [p_lit 16]; exact p_yle (by omega) (by omega)), jf_Model_drop_b141, nI_1]
  | succ d ih =>
    intro r g atx hr hg
    obtain ⟨g, rfl⟩ : ∃ z, g = z + 1 := ⟨g - 1, by omega⟩
    obtain ⟨atx', h1, h2, h3⟩ := ih (r + 1) g (upd atx (16 * j + r) (vp_nar .byte (atx (16 * (j + 1) + r)))) (by omega) (by omega)
    refine ⟨atx', ?_, fun m hm => ?_, fun m hm1 hm2 => ?_⟩
    · rw [jf_Model_drop_b105, if_neg (by rw [p_lit 16]; exact p_nle (by omega) (by omega)), p_lit 16, nI_1, pk_mul, pk_mul, nI_add, nI_add, p_ga (by omega) (by omega), p_ga (by omega) (by omega), p_cl (by omega), p_cl (by omega), nI_1]
      exact h1
    · rw [h2 m (by omega), p_upd_n (by omega)]
    · by_cases e : m = 16 * j + r
      · subst e
        rw [h2 _ (by omega), p_upd_s, show 16 * (j + 1) + r = 16 * j + r + 16 by omega]
      · rw [h3 m (by omega) hm2, p_upd_n (by omega)]
theorem drop_b70 {N j : Nat} (hj : j < 60) {en : Int32} {ak asm atm atx : Nat → Int32} : ∀ (d r g : Nat) (ass : Nat → Int32), r + d = 5 → d < g → ∃ ass', jf_Model_drop_b70 N k16 g (nI j) (nI r) en ak asm ass atm atx = jf_Model_drop_b103 N k16 (nI j) en ak asm ass' atm atx ∧ (∀ m, (m < 5 * j + r ∨ 5 * j + 5 ≤ m) → ass' m = ass m) ∧ (∀ m, 5 * j + r ≤ m → m < 5 * j + 5 → ass' m = ass (m + 5)) := by
  intro d
  induction d with
  | zero =>
    intro r g ass hr hg
    obtain ⟨g, rfl⟩ : ∃ z, g = z + 1 := ⟨g - 1, by omega⟩
    refine ⟨ass, ?_, fun m hm => rfl, fun m h1 h2 => by omega⟩
    rw [jf_Model_drop_b70, if_pos (by rw [p_lit 5]; exact p_yle (by omega) (by omega))]
  | succ d ih =>
    intro r g ass hr hg
    obtain ⟨g, rfl⟩ : ∃ z, g = z + 1 := ⟨g - 1, by omega⟩
    obtain ⟨ass', h1, h2, h3⟩ := ih (r + 1) g (upd ass (5 * j + r) (ass (5 * (j + 1) + r))) (by omega) (by omega)
    refine ⟨ass', ?_, fun m hm => ?_, fun m hm1 hm2 => ?_⟩
    · rw [jf_Model_drop_b70, if_neg (by rw [p_lit 5]; exact p_nle (by omega) (by omega)), p_lit 5, nI_1, pk_mul, pk_mul, nI_add, nI_add, p_ga (by omega) (by omega), p_ga (by omega) (by omega), p_cl (by omega), p_cl (by omega), nI_1]
      exact h1
    · rw [h2 m (by omega), p_upd_n (by omega)]
    · by_cases e : m = 5 * j + r
      · subst e
        rw [h2 _ (by omega), p_upd_s, show 5 * (j + 1) + r = 5 * j + r + 5 by omega]
      · rw [h3 m (by omega) hm2, p_upd_n (by omega)]
end DROP
theorem drop_b16 {N ne : Nat} (hN : 20 ≤ N) (hne : ne ≤ 60) (h0 : 0 < ne) : ∀ (d j g : Nat) (ak asm ass atm atx : Nat → Int32), j + d + 1 = ne → d < g → ∃ ak' asm' ass' atm' atx', jf_Model_drop_b16 N g (nI j) (nI ne) ak asm ass atm atx = some (1, nI (ne - 1), ak', asm', ass', atm', atx') ∧
    (∀ i, (i < j → ak' i = ak i ∧ asm' i = asm i ∧ atm' i = atm i) ∧ (j ≤ i → i + 1 < ne → ak' i = ak (i + 1) ∧ asm' i = asm (i + 1) ∧ atm' i = atm (i + 1))) ∧
    (∀ m, (m < 5 * j → ass' m = ass m) ∧ (5 * j ≤ m → m + 5 < 5 * ne → ass' m = ass (m + 5))) ∧
    (∀ m, (m < 16 * j → atx' m = atx m) ∧ (16 * j ≤ m → m + 16 < 16 * ne → atx' m = vp_nar .byte (atx (m + 16)))) := by
  intro d
  induction d with
  | zero =>
    intro j g ak asm ass atm atx hj hg
    obtain ⟨g, rfl⟩ : ∃ z, g = z + 1 := ⟨g - 1, by omega⟩
    refine ⟨ak, asm, ass, atm, atx, ?_, fun i => ⟨fun _ => ⟨rfl, rfl, rfl⟩, fun _ _ => by omega⟩, fun m => ⟨fun _ => rfl, fun _ _ => by omega⟩, fun m => ⟨fun _ => rfl, fun _ _ => by omega⟩⟩
    rw [jf_Model_drop_b16, p_s1 h0, if_pos (p_yle (by omega) (by omega)), jf_Model_drop_b147, p_s1 h0]
  | succ d ih =>
    intro j g ak asm ass atm atx hj hg
    obtain ⟨g, rfl⟩ : ∃ z, g = z + 1 := ⟨g - 1, by omega⟩
    obtain ⟨ass1, a1, a2, a3⟩ := drop_b70 (N := N) (k16 := jf_Model_drop_b16 N g) (j := j) (by omega) (en := nI ne) (ak := upd ak j (ak (j + 1))) (asm := upd asm j (asm (j + 1))) (atm := upd atm j (atm (j + 1))) (atx := atx) 5 0 N ass (by omega) (by omega)
    obtain ⟨atx1, b1, b2, b3⟩ := drop_b105 (k16 := jf_Model_drop_b16 N g) (j := j) (by omega) (en := nI ne) (ak := upd ak j (ak (j + 1))) (asm := upd asm j (asm (j + 1))) (ass := ass1) (atm := upd atm j (atm (j + 1))) 16 0 N atx (by omega) (by omega)
    obtain ⟨ak', asm', ass', atm', atx', h1, h2, h3, h4⟩ := ih (j + 1) g (upd ak j (ak (j + 1))) (upd asm j (asm (j + 1))) ass1 (upd atm j (atm (j + 1))) atx1 (by omega) (by omega)
    refine ⟨ak', asm', ass', atm', atx', ?_, fun i => ⟨fun hi => ?_, fun hi1 hi2 => ?_⟩, fun m => ⟨fun hm => ?_, fun hm1 hm2 => ?_⟩, fun m => ⟨fun hm => ?_, fun hm1 hm2 => ?_⟩⟩
    · rw [jf_Model_drop_b16, p_s1 h0, if_neg (p_nle (by omega) (by omega)), nI_1, p_ga (by omega) (by omega), p_ga (by omega) (by omega), p_ga (by omega) (by omega), p_ga (by omega) (by omega), p_ga (by omega) (by omega), p_ga (by omega) (by omega), p_cl (by omega), p_cl (by omega)]
      refine Eq.trans a1 ?_
      rw [jf_Model_drop_b103]
      refine Eq.trans b1 h1
    · obtain ⟨q1, q2, q3⟩ := (h2 i).1 (by omega)
      rw [q1, q2, q3, p_upd_n (by omega), p_upd_n (by omega), p_upd_n (by omega)]
      exact ⟨rfl, rfl, rfl⟩
    · by_cases e : i = j
      · subst e
        obtain ⟨q1, q2, q3⟩ := (h2 i).1 (by omega)
        rw [q1, q2, q3, p_upd_s, p_upd_s, p_upd_s]
        exact ⟨rfl, rfl, rfl⟩
      · obtain ⟨q1, q2, q3⟩ := (h2 i).2 (by omega) hi2
        rw [q1, q2, q3, p_upd_n (by omega), p_upd_n (by omega), p_upd_n (by omega)]
        exact ⟨rfl, rfl, rfl⟩
    · rw [(h3 m).1 (by omega), a2 m (by omega)]
    · rcases Nat.lt_or_ge m (5 * j + 5) with q | q
      · rw [(h3 m).1 (by omega), a3 m (by omega) (by omega)]
      · rw [(h3 m).2 (by omega) hm2, a2 _ (by omega)]
    · rw [(h4 m).1 (by omega), b2 m (by omega)]
    · rcases Nat.lt_or_ge m (16 * j + 16) with q | q
      · rw [(h4 m).1 (by omega), b3 m (by omega) (by omega)]
      · rw [(h4 m).2 (by omega) hm2, b2 _ (by omega)]
theorem fits_isB {x : Int32} (h : isB x) : fits .byte (.int x) = true := by
  have := pk_fb x
  rw [h] at this
  exact this
set_option maxHeartbeats 2000000 in
theorem Book_remove_ok {k ne : Nat} {ak al ax ac as : Nat → Int32} (hk : k < ne) (hne : ne ≤ 60) (hF : ∀ i, isB (ax i)) : jf_Book_remove (nI k) (nI ne) ak al ax ac as = some (nI (ne - 1), va_cpy ak ak (k + 1) k (ne - (k + 1)), va_cpy al al (k + 1) k (ne - (k + 1)), va_cpy ax ax ((k + 1) * 16) (k * 16) ((ne - (k + 1)) * 16), va_cpy ac ac (k + 1) k (ne - (k + 1)), va_cpy as as ((k + 1) * 5) (k * 5) ((ne - (k + 1)) * 5)) := by
  rw [jf_Book_remove, if_neg (p_n0 (by omega)), if_pos (p_ylt hk (by omega)), nI_1, p_sub (by omega), p_lit 5, p_lit 16, pk_mul, pk_mul, pk_mul, pk_mul, pk_mul, pk_mul, p_s1 (by omega)]
  rw [p_gc (by omega) (by omega) (by omega) (by omega), p_gc (by omega) (by omega) (by omega) (by omega), p_gc (by omega) (by omega) (by omega) (by omega), p_gc (by omega) (by omega) (by omega) (by omega), p_gc (by omega) (by omega) (by omega) (by omega)]
  have hg : ∀ (α : Type) (x : Option α), jgf ax (nI ((k + 1) * 16)) (nI ((ne - (k + 1)) * 16)) x = x := by
    intro α x
    unfold jgf
    rw [if_pos (fun i _ => fits_isB (hF _))]
  rw [hg, p_cl (by omega), p_cl (by omega), p_cl (by omega), p_cl (by omega), p_cl (by omega), p_cl (by omega), p_cl (by omega), p_cl (by omega), p_cl (by omega)]
theorem bk_shift {ne k : Nat} {kd : Nat → Int32} {sc : Nat → Nat} {st : Nat → Int32} {ln : Nat → Nat} {tx : Nat → Int32} {z : Int32} {ak ac as al ax ak' ac' as' al' ax' : Nat → Int32} (h : bkC ne kd sc st ln tx z ak ac as al ax) (hk : k < ne) (h516 : ∀ j, j < ne → sc j ≤ 5 ∧ ln j ≤ 16) (n1 : ∀ i, i < ne - 1 → (i < k → ak' i = ak i ∧ ac' i = ac i ∧ al' i = al i) ∧ (k ≤ i → ak' i = ak (i + 1) ∧ ac' i = ac (i + 1) ∧ al' i = al (i + 1))) (n2 : ∀ m, (m < 5 * k → as' m = as m) ∧ (5 * k ≤ m → m + 5 < 5 * ne → as' m = as (m + 5))) (n3 : ∀ j i, j < ne - 1 → i < 16 → (j < k → ax' (16 * j + i) = ax (16 * j + i)) ∧ (k ≤ j → i < ln (j + 1) → ax' (16 * j + i) = ax (16 * (j + 1) + i))) : bkC (ne - 1) (fun j => if j < k then kd j else kd (j + 1)) (fun j => if j < k then sc j else sc (j + 1)) (fun j => if j < 5 * k then st j else st (j + 5)) (fun j => if j < k then ln j else ln (j + 1)) (fun j => if j < 16 * k then tx j else tx (j + 16)) (nI (ne - 1)) ak' ac' as' al' ax' := by
  refine ⟨rfl, fun j hj => ?_⟩
  dsimp only
  by_cases e1 : j < k
  · obtain ⟨q1, q2, q3, q4, q5⟩ := h.2 j (by omega)
    have s := h516 j (by omega)
    obtain ⟨m1, m2, m3⟩ := (n1 j hj).1 e1
    rw [if_pos e1, if_pos e1, if_pos e1]
    refine ⟨by rw [m1, q1], by rw [m2, q2], by rw [m3, q3], fun i hi => ?_, fun i hi => ?_⟩
    · rw [if_pos (by omega), (n2 _).1 (by omega), q4 i hi]
    · rw [if_pos (by omega), (n3 j i hj (by omega)).1 e1, q5 i hi]
  · obtain ⟨q1, q2, q3, q4, q5⟩ := h.2 (j + 1) (by omega)
    have s := h516 (j + 1) (by omega)
    obtain ⟨m1, m2, m3⟩ := (n1 j hj).2 (by omega)
    rw [if_neg e1, if_neg e1, if_neg e1]
    refine ⟨by rw [m1, q1], by rw [m2, q2], by rw [m3, q3], fun i hi => ?_, fun i hi => ?_⟩
    · rw [if_neg (by omega), (n2 _).2 (by omega) (by omega), show 5 * j + i + 5 = 5 * (j + 1) + i by omega, q4 i hi]
    · rw [if_neg (by omega), (n3 j i hj (by omega)).2 (by omega) hi, show 16 * j + i + 16 = 16 * (j + 1) + i by omega, q5 i hi]
set_option maxHeartbeats 4000000 in
theorem op_drop {N q ne : Nat} {x rs se cz mz : Int32} {kd : Nat → Int32} {sc : Nat → Nat} {st : Nat → Int32} {ln : Nat → Nat} {tx : Nat → Int32} {ck cl cx cc cs mk mc ms ml mx : Nat → Int32} (hN : 100 ≤ N) (hrs : rs = nI q) (hq : q ≤ 300) (hC : bkC ne kd sc st ln tx cz ck cc cs cl cx) (hM : bkC ne kd sc st ln tx mz mk mc ms ml mx) (hV : bkV ne kd sc st ln tx) (hF : ∀ i, isB (cx i)) :
    ∃ (r cz' rs' se' mz' : Int32) (ck' cl' cx' cc' cs' mk' mc' ms' ml' mx' : Nat → Int32), jf_Room_drop x cz rs se ck cl cx cc cs = some (r, cz', rs', se', ck', cl', cx', cc', cs') ∧ jf_Model_drop N x mz mk mc ms ml mx = some (r, mz', mk', mc', ms', ml', mx') ∧ bkP ne kd sc st ln tx cz rs se ck cl cx cc cs cz' rs' se' ck' cl' cx' cc' cs' mz' mk' mc' ms' ml' mx' := by
  obtain ⟨rfl, hC2⟩ := id hC
  obtain ⟨rfl, hM2⟩ := id hM
  have hne := hV.1
  rcases p_ix x (n := ne) (by omega) with h0 | ⟨h1, h0⟩ | ⟨k, hk, rfl⟩
  · refine ⟨0, nI ne, rs, se, nI ne, ck, cl, cx, cc, cs, mk, mc, ms, ml, mx, ?_, ?_, Or.inl ⟨rfl, rfl, rfl, rfl, rfl, rfl, rfl, rfl, hM⟩⟩
    · rw [jf_Room_drop, Book_has_neg h0, Option.bind_some, if_pos rfl]
    · rw [jf_Model_drop, if_pos h0]
  · refine ⟨0, nI ne, rs, se, nI ne, ck, cl, cx, cc, cs, mk, mc, ms, ml, mx, ?_, ?_, Or.inl ⟨rfl, rfl, rfl, rfl, rfl, rfl, rfl, rfl, hM⟩⟩
    · rw [jf_Room_drop, Book_has_big h1 h0, Option.bind_some, if_pos rfl]
    · rw [jf_Model_drop, if_neg h0, if_neg (Int32.not_lt.mpr h1)]
  · obtain ⟨mk', mc', ms', ml', mx', g1, g2, g3, g4⟩ := drop_b16 (N := N) (by omega) hne (by omega) (ne - 1 - k) k N mk mc ms ml mx (by omega) (by omega)
    have hra : jf_Room_readAnew 0 (nI q) se = some (nI (min q 0), 0) := readAnew_ok (i := 0) (by omega) (by omega)
    have sub1 : ∀ j, j < ne - 1 → k ≤ j → j + 1 < ne := fun j h _ => by omega
    have h516 : ∀ j, j < ne → sc j ≤ 5 ∧ ln j ≤ 16 := fun j hj => by
      obtain ⟨⟨c9, -, -, hl9⟩, -, s5, -⟩ := hV.2.1 j hj
      exact ⟨s5, lnB_16 hl9⟩
    refine ⟨1, nI (ne - 1), nI (min q 0), 0, nI (ne - 1), va_cpy ck ck (k + 1) k (ne - (k + 1)), va_cpy cl cl (k + 1) k (ne - (k + 1)), va_cpy cx cx ((k + 1) * 16) (k * 16) ((ne - (k + 1)) * 16), va_cpy cc cc (k + 1) k (ne - (k + 1)), va_cpy cs cs ((k + 1) * 5) (k * 5) ((ne - (k + 1)) * 5), mk', mc', ms', ml', mx', ?_, ?_, Or.inr ⟨rfl, by rw [Nat.min_zero], ?_, ne - 1, fun j => if j < k then kd j else kd (j + 1), fun j => if j < k then sc j else sc (j + 1), fun j => if j < 5 * k then st j else st (j + 5), fun j => if j < k then ln j else ln (j + 1), fun j => if j < 16 * k then tx j else tx (j + 16), ?_, ?_, ?_⟩⟩
    · rw [jf_Room_drop, Book_has_in hk hne, Option.bind_some, if_neg (by decide), Book_remove_ok hk hne hF, Option.bind_some]
      dsimp only
      rw [hrs, hra, Option.bind_some]
    · rw [jf_Model_drop, if_neg (p_n0 (by omega)), if_pos (p_ylt hk (by omega))]
      exact g1
    · intro i
      unfold va_cpy
      split
      · exact hF _
      · exact hF _
    · refine bk_shift hC hk h516 (fun i hi => ⟨fun q1 => ⟨pk_cpy_out (by omega), pk_cpy_out (by omega), pk_cpy_out (by omega)⟩, fun q1 => ?_⟩) (fun m => ⟨fun q1 => pk_cpy_out (by omega), fun q1 q2 => ?_⟩) (fun j i hj hi => ⟨fun q1 => pk_cpy_out (by omega), fun q1 q2 => ?_⟩)
      · rw [pk_cpy_in (by omega) (by omega), pk_cpy_in (by omega) (by omega), pk_cpy_in (by omega) (by omega), show k + 1 + (i - k) = i + 1 by omega]
        exact ⟨rfl, rfl, rfl⟩
      · rw [pk_cpy_in (by omega) (by omega), show (k + 1) * 5 + (m - k * 5) = m + 5 by omega]
      · rw [pk_cpy_in (by omega) (by omega), show (k + 1) * 16 + (16 * j + i - k * 16) = 16 * (j + 1) + i by omega]
    · refine bk_shift hM hk h516 (fun i hi => ⟨fun q1 => (g2 i).1 q1, fun q1 => (g2 i).2 q1 (by omega)⟩) (fun m => ⟨(g3 m).1, (g3 m).2⟩) (fun j i hj hi => ⟨fun q1 => (g4 _).1 (by omega), fun q1 q2 => ?_⟩)
      have hx := (hM2 (j + 1) (by omega)).2.2.2.2 i q2
      have hbb := (hV.2.1 (j + 1) (by omega)).2.2.2.2 i q2
      rw [(g4 _).2 (by omega) (by omega), show 16 * j + i + 16 = 16 * (j + 1) + i by omega, hx, vp_nar_byte]
      exact bB_isB hbb
    · refine ⟨by omega, fun j hj => ?_, fun j1 j2 hj1 hj2 hs hstk => ?_⟩
      · dsimp only
        by_cases e1 : j < k
        · obtain ⟨v1, v2, v3, v4, v5⟩ := hV.2.1 j (by omega)
          have := h516 j (by omega)
          rw [if_pos e1, if_pos e1, if_pos e1]
          refine ⟨v1, v2, v3, fun i hi => ?_, fun i hi => ?_⟩
          · rw [if_pos (by omega)]; exact v4 i hi
          · rw [if_pos (by omega)]; exact v5 i hi
        · obtain ⟨v1, v2, v3, v4, v5⟩ := hV.2.1 (j + 1) (by omega)
          have := h516 (j + 1) (by omega)
          rw [if_neg e1, if_neg e1, if_neg e1]
          refine ⟨v1, v2, v3, fun i hi => ?_, fun i hi => ?_⟩
          · rw [if_neg (by omega), show 5 * j + i + 5 = 5 * (j + 1) + i by omega]; exact v4 i hi
          · rw [if_neg (by omega), show 16 * j + i + 16 = 16 * (j + 1) + i by omega]; exact v5 i hi
      · dsimp only at hs hstk
        have f : ∀ j, j < ne - 1 → ∃ j0, j0 < ne ∧ (if j < k then sc j else sc (j + 1)) = sc j0 ∧ (∀ i, i < 5 → (if 5 * j + i < 5 * k then st (5 * j + i) else st (5 * j + i + 5)) = st (5 * j0 + i)) ∧ j0 = (if j < k then j else j + 1) := by
          intro j hj
          by_cases e1 : j < k
          · exact ⟨j, by omega, by rw [if_pos e1], fun i hi => by rw [if_pos (by omega)], by rw [if_pos e1]⟩
          · exact ⟨j + 1, by omega, by rw [if_neg e1], fun i hi => by rw [if_neg (by omega), show 5 * j + i + 5 = 5 * (j + 1) + i by omega], by rw [if_neg e1]⟩
        obtain ⟨a0, ha0, ha1, ha2, ha3⟩ := f j1 hj1
        obtain ⟨b0, hb0, hb1, hb2, hb3⟩ := f j2 hj2
        rw [ha1, hb1] at hs
        have s5 := (h516 a0 ha0).1
        have : a0 = b0 := hV.2.2 a0 b0 ha0 hb0 hs (fun i hi => by
          have := hstk i (by rw [ha1]; exact hi)
          rw [ha2 i (by omega), hb2 i (by omega)] at this
          exact this)
        rw [ha3, hb3] at this
        by_cases e1 : j1 < k <;> by_cases e2 : j2 < k
        · rw [if_pos e1, if_pos e2] at this; exact this
        · rw [if_pos e1, if_neg e2] at this; omega
        · rw [if_neg e1, if_pos e2] at this; omega
        · rw [if_neg e1, if_neg e2] at this; omega
