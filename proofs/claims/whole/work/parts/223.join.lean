/-! the last word and a suffix -/
theorem ar_dropLast {a : Nat → Int32} {l : List Int32} (h : ar a l) : ar a l.dropLast := by
  intro i x hx
  rw [List.dropLast_eq_take, List.getElem?_take] at hx
  split at hx
  · exact h i x hx
  · cases hx
theorem ar_len_dropLast {l : List Int32} : l.dropLast.length = l.length - 1 := List.length_dropLast
/-- what becomes of the last word's end -/
def jn (l : List Int32) (n : Nat) (x : Int32) (s : Bool) : List Int32 :=
  if rl l n x s = 1 then (if s = true then l.dropLast ++ [105] ++ [101] else l.dropLast ++ [105])
  else if rl l n x s = 2 then l ++ [101]
  else if rl l n x s = 3 then l.dropLast
  else if rl l n x s = 4 then l ++ [smF (fe l 0)] else l
theorem jn_len {l : List Int32} {n : Nat} {x : Int32} {s : Bool} (hl : 1 ≤ l.length) : (jn l n x s).length ≤ l.length + 1 := by
  unfold jn
  split
  · split
    · rw [List.length_append, List.length_append, ar_len_dropLast]
      simp only [List.length_singleton]
      omega
    · rw [List.length_append, ar_len_dropLast, List.length_singleton]
      omega
  · split
    · rw [List.length_append, List.length_singleton]; omega
    · split
      · rw [ar_len_dropLast]; omega
      · split
        · rw [List.length_append, List.length_singleton]; omega
        · omega
def isS (k m : Nat) (ax : Nat → Int32) : Bool := decide (m = 1 ∧ ax (16 * k) = 115)
/-- the text with entry k's suffix joined -/
def sfx (l : List Int32) (n k m : Nat) (ax : Nat → Int32) : List Int32 := jn l n (ax (16 * k)) (isS k m ax) ++ wl (fun j => ax (16 * k + j)) m 0
theorem smB {v : Int32} (h : isSm v) : v.toInt8.toInt32 = v ∧ (v &&& 255) = v := by
  obtain ⟨m, m1, m2, rfl⟩ := isSm_nI h
  obtain ⟨-, -, -, -, c5, c6, -⟩ := chr_all m (by omega)
  exact ⟨c6, c5⟩
theorem cSuf_loop {k n ne nb : Nat} {lk L V : Int32} {al ax : Nat → Int32} (hk : k < ne) (hne : ne ≤ 60) (hal : al k = nI n) (hn : n ≤ 16) (hb : nb ≤ 10000) (hsm : ∀ j, j < n → isSm (ax (16 * k + j))) : ∀ (d i g : Nat) (l : List Int32) (a : Nat → Int32), i + d = n → d < g → ar a l → l.length + d ≤ nb → ∃ a', jf_Page_joinSuffix_b155 (nI k) nb (nI ne) al ax g (nI i) (nI l.length) lk L V a = some (nI (l ++ wl (fun j => ax (16 * k + j)) d i).length, 0, L, V, a') ∧ ar a' (l ++ wl (fun j => ax (16 * k + j)) d i) := by
  intro d
  induction d with
  | zero =>
    intro i g l a hi hg ha hl
    obtain ⟨g, rfl⟩ : ∃ y, g = y + 1 := ⟨g - 1, by omega⟩
    refine ⟨a, ?_, by rw [wl, List.append_nil]; exact ha⟩
    rw [jf_Page_joinSuffix_b155, Book_lengthOf_in hk hne, hal, Option.bind_some, if_pos (p_yle (by omega) (by omega)), jf_Page_joinSuffix_b188, wl, List.append_nil]
  | succ d ih =>
    intro i g l a hi hg ha hl
    obtain ⟨g, rfl⟩ : ∃ y, g = y + 1 := ⟨g - 1, by omega⟩
    have hs := hsm i (by omega)
    obtain ⟨a', h1, h2⟩ := ih (i + 1) g (l ++ [ax (16 * k + i)]) (upd a l.length (ax (16 * k + i))) (by omega) (by omega) (ar_push ha) (by rw [List.length_append, List.length_singleton]; omega)
    rw [List.append_assoc, List.singleton_append] at h1 h2
    rw [List.length_append (as := l) (bs := [ax (16 * k + i)]), List.length_singleton] at h1
    refine ⟨a', ?_, h2⟩
    rw [jf_Page_joinSuffix_b155, Book_lengthOf_in hk hne, hal, Option.bind_some, if_neg (p_nle (by omega) (by omega)), Book_letterAt_in hk hne hal (by omega) hn, Option.bind_some, Page_put_ok (by omega) hb (smB hs).1, Option.bind_some]
    dsimp only
    rw [nI_1]
    exact h1
theorem mSuf_loop {k n ne : Nat} {al ax : Nat → Int32} (hk : k < ne) (hne : ne ≤ 60) (hal : al k = nI n) (hn : n ≤ 16) (hsm : ∀ j, j < n → isSm (ax (16 * k + j))) : ∀ (d i g : Nat) (l : List Int32) (a : Nat → Int32), i + d = n → d < g → ar a l → l.length + d ≤ 8000 → ∃ a', jf_Model_joins_b117 (nI k) al ax g (nI i) (nI l.length) a = some (nI (l ++ wl (fun j => ax (16 * k + j)) d i).length, a') ∧ ar a' (l ++ wl (fun j => ax (16 * k + j)) d i) := by
  intro d
  induction d with
  | zero =>
    intro i g l a hi hg ha hl
    obtain ⟨g, rfl⟩ : ∃ y, g = y + 1 := ⟨g - 1, by omega⟩
    refine ⟨a, ?_, by rw [wl, List.append_nil]; exact ha⟩
    rw [jf_Model_joins_b117, p_ga (by omega) (by omega), p_cl (by omega), hal, if_pos (p_yle (by omega) (by omega)), wl, List.append_nil]
  | succ d ih =>
    intro i g l a hi hg ha hl
    obtain ⟨g, rfl⟩ : ∃ y, g = y + 1 := ⟨g - 1, by omega⟩
    have hs := hsm i (by omega)
    obtain ⟨a', h1, h2⟩ := ih (i + 1) g (l ++ [ax (16 * k + i)]) (upd a l.length (ax (16 * k + i))) (by omega) (by omega) (ar_push ha) (by rw [List.length_append, List.length_singleton]; omega)
    rw [List.append_assoc, List.singleton_append] at h1 h2
    rw [List.length_append (as := l) (bs := [ax (16 * k + i)]), List.length_singleton] at h1
    refine ⟨a', ?_, h2⟩
    rw [jf_Model_joins_b117, p_ga (by omega) (by omega), p_cl (by omega), hal, if_neg (p_nle (by omega) (by omega)), jf_Model_byteOf, p_lit 16, pk_mul, nI_add, p_ga (by omega) (by omega), Option.bind_some, p_cl (by omega), (smB hs).2, Model_puts_ok (by omega) (smB hs).1, Option.bind_some]
    dsimp only
    rw [nI_1]
    exact h1
theorem smallFromEnd_ok {nb L i : Nat} {l : List Int32} {a : Nat → Int32} (ha : ar a l) (h7 : txt7 l) (hl : l.length ≤ nb) (hb : nb ≤ 10000) (hL : L ≤ l.length) (hi : i < 10000) : jf_Page_smallFromEnd (nI i) nb (nI l.length) (nI L) a = some (if i < L then smF (fe l i) else -1) := by
  rw [jf_Page_smallFromEnd]
  by_cases h : i < L
  · obtain ⟨m, hm, e⟩ := fe_7 h7 (by omega : i < l.length)
    obtain ⟨-, -, c3, -, -, -, -⟩ := chr_all m hm
    rw [if_neg (p_nle h (by omega)), if_pos h, p_s1 (by omega), p_sub (by omega), if_neg (p_n0 (by omega)), if_neg (p_nle (by omega) (by omega)), p_ga (by omega) (by omega), p_cl (by omega), fe_ar ha (by omega), e, c3, Option.bind_some]
  · rw [if_pos (p_yle (by omega) (by omega)), if_neg h]
theorem rl_vals (l : List Int32) (n : Nat) (x : Int32) (s : Bool) : rl l n x s = 1 ∨ rl l n x s = 2 ∨ rl l n x s = 3 ∨ rl l n x s = 4 ∨ rl l n x s = 5 := by
  unfold rl
  split
  · exact Or.inl rfl
  · split
    · exact Or.inr (Or.inl rfl)
    · split
      · exact Or.inr (Or.inr (Or.inr (Or.inr rfl)))
      · split
        · exact Or.inr (Or.inr (Or.inl rfl))
        · split
          · exact Or.inr (Or.inr (Or.inr (Or.inl rfl)))
          · exact Or.inr (Or.inr (Or.inr (Or.inr rfl)))
theorem joinSuffix_ok {N k m n ne nb : Nat} {lk L0 V0 : Int32} {al ax a : Nat → Int32} {l : List Int32} (hN : 9000 ≤ N) (hk : k < ne) (hne : ne ≤ 60) (hal : al k = nI m) (hm1 : 1 ≤ m) (hm : m ≤ 16) (hb : nb ≤ 8000) (hsm : ∀ j, j < m → isSm (ax (16 * k + j))) (ha : ar a l) (h7 : txt7 l) (ht : tw l n) (hn : 1 ≤ n) (hl : l.length + 1 + m ≤ nb) : ∃ L V a', jf_Page_joinSuffix N (nI k) nb (nI ne) al ax (nI l.length) lk L0 V0 a = some (nI (sfx l n k m ax).length, 0, L, V, a') ∧ ar a' (sfx l n k m ax) := by
  have hnl := ht.1
  have hx := hsm 0 (by omega)
  rw [Nat.add_zero] at hx
  have hlet : jf_Book_letterAt (nI k) 0 (nI ne) al ax = some (ax (16 * k)) := Book_letterAt_in (i := 0) hk hne hal (by omega) hm
  have hv : ∃ q, q < 128 ∧ fe l 0 = nI q := fe_7 h7 (by omega)
  obtain ⟨q, hq, eq⟩ := hv
  obtain ⟨-, -, -, -, -, -, c7⟩ := chr_all q hq
  rw [← eq] at c7
  obtain ⟨L, hme, hL1, hL2⟩ := cLast_loop (nb := nb) (asked := if vwB (ax (16 * k)) = true then 2 else 0) ha h7 (by omega) (by omega) (by split <;> omega) ht n 0 N (by omega) (by omega)
  have hL0 : 1 ≤ L := by rcases hL2 with q | q <;> omega
  have hmea : ∀ z, (z = if vwB (ax (16 * k)) = true then (1 : Int32) else 0) → jf_Page_measureLastWord N z nb (nI l.length) a L0 V0 = some (nI L, nI (cv l L)) := by
    intro z hz
    rw [hz, jf_Page_measureLastWord]
    by_cases hvx : vwB (ax (16 * k)) = true
    · rw [if_pos hvx] at hme ⊢
      rw [if_neg (by decide), jf_Page_measureLastWord_b9, p_s1 (by omega)]
      rw [Nat.sub_zero, p_d1 (by omega)] at hme
      exact hme
    · rw [if_neg hvx] at hme ⊢
      rw [if_pos rfl, jf_Page_measureLastWord_b9, p_s1 (by omega)]
      rw [Nat.sub_zero, p_d1 (by omega)] at hme
      exact hme
  have s0 : jf_Page_smallFromEnd 0 nb (nI l.length) (nI L) a = some (smF (fe l 0)) := by
    have := smallFromEnd_ok (i := 0) ha h7 (by omega : l.length ≤ nb) (by omega) (by omega : L ≤ l.length) (by omega)
    rw [if_pos (by omega)] at this
    exact this
  have s1 : jf_Page_smallFromEnd 1 nb (nI l.length) (nI L) a = some (if 1 < L then smF (fe l 1) else -1) := smallFromEnd_ok (i := 1) ha h7 (by omega : l.length ≤ nb) (by omega) (by omega : L ≤ l.length) (by omega)
  have hrule := cRule_ok (l := l) (n := n) (L := L) (x := ax (16 * k)) (s := isS k m ax) hn (by omega) hL1 hL2
  have hend : ∀ (l' : List Int32) (b : Nat → Int32), ar b l' → l'.length + m ≤ nb → ∃ a', jf_Page_joinSuffix_b152 N (nI k) nb (nI ne) al ax (nI l'.length) lk (nI L) (nI (cv l L)) b = some (nI (l' ++ wl (fun j => ax (16 * k + j)) m 0).length, 0, nI L, nI (cv l L), a') ∧ ar a' (l' ++ wl (fun j => ax (16 * k + j)) m 0) := by
    intro l' b hb' hl'
    rw [jf_Page_joinSuffix_b152]
    exact cSuf_loop hk hne hal hm (by omega) hsm m 0 N l' b (by omega) (by omega) hb' hl'
  have hd : ar a l.dropLast := ar_dropLast ha
  have hdl : l.dropLast.length = l.length - 1 := ar_len_dropLast
  have e33 : jf_Page_joinSuffix_b33 N (nI k) nb (nI ne) al ax (ax (16 * k)) (if isS k m ax = true then 1 else 0) (nI l.length) lk L0 V0 a = jf_Page_joinSuffix N (nI k) nb (nI ne) al ax (nI l.length) lk L0 V0 a := by
    rw [jf_Page_joinSuffix, hlet, Option.bind_some]
    by_cases hx5 : ax (16 * k) = 115
    · rw [if_pos hx5, Book_lengthOf_in hk hne, hal, Option.bind_some]
      by_cases hm' : m = 1
      · rw [if_pos (show nI m = 1 from by rw [hm']; rfl), if_pos (show isS k m ax = true from decide_eq_true ⟨hm', hx5⟩)]
      · rw [if_neg (show ¬ nI m = 1 from p_ne (b := 1) hm' (by omega) (by omega)), if_neg (show ¬ isS k m ax = true from fun q => hm' (of_decide_eq_true q).1), jf_Page_joinSuffix_b32]
    · rw [if_neg hx5, if_neg (show ¬ isS k m ax = true from fun q => hx5 (of_decide_eq_true q).2), jf_Page_joinSuffix_b32]
  rw [← e33, jf_Page_joinSuffix_b33, cVw, Option.bind_some, hmea _ rfl, Option.bind_some]
  dsimp only
  rw [s0, Option.bind_some, s1, Option.bind_some, hrule, Option.bind_some]
  unfold sfx jn
  rcases rl_vals l n (ax (16 * k)) (isS k m ax) with r | r | r | r | r
  · rw [r, show (if (1 : Int32) = 5 then (0 : Int32) else 1) = 1 from by decide, if_pos rfl, if_pos rfl, p_s1 (by omega), ← hdl, Page_put_ok (by omega) (by omega) (by decide), Option.bind_some]
    dsimp only
    have h1 : ar (upd a l.dropLast.length 105) (l.dropLast ++ [105]) := ar_push hd
    have hl1 : (l.dropLast ++ [(105 : Int32)]).length = l.dropLast.length + 1 := by rw [List.length_append, List.length_singleton]
    by_cases hs : isS k m ax = true
    · rw [if_pos hs, if_pos hs, if_neg (by decide), Page_put_ok (by omega) (by omega) (by decide), Option.bind_some]
      dsimp only
      have h2 : ar (upd (upd a l.dropLast.length 105) (l.dropLast ++ [(105 : Int32)]).length 101) (l.dropLast ++ [105] ++ [101]) := ar_push h1
      obtain ⟨a', k1, k2⟩ := hend _ _ h2 (by rw [List.length_append, hl1, List.length_singleton]; omega)
      rw [List.length_append (as := l.dropLast ++ [105]), hl1, List.length_singleton] at k1
      rw [hl1] at h2
      exact ⟨_, _, a', k1, k2⟩
    · rw [if_neg hs, if_neg hs, if_pos rfl]
      obtain ⟨a', k1, k2⟩ := hend _ _ h1 (by rw [hl1]; omega)
      rw [hl1] at k1
      exact ⟨_, _, a', k1, k2⟩
  · rw [r, show (if (2 : Int32) = 5 then (0 : Int32) else 2) = 2 from by decide, if_neg (by decide), if_pos rfl, if_neg (by decide), if_pos rfl, Page_put_ok (by omega) (by omega) (by decide), Option.bind_some]
    dsimp only
    have h1 : ar (upd a l.length 101) (l ++ [101]) := ar_push ha
    have hl1 : (l ++ [(101 : Int32)]).length = l.length + 1 := by rw [List.length_append, List.length_singleton]
    obtain ⟨a', k1, k2⟩ := hend _ _ h1 (by rw [hl1]; omega)
    rw [hl1] at k1
    exact ⟨_, _, a', k1, k2⟩
  · rw [r, show (if (3 : Int32) = 5 then (0 : Int32) else 3) = 3 from by decide, if_neg (by decide), if_neg (by decide), if_pos rfl, if_neg (by decide), if_neg (by decide), if_pos rfl, p_s1 (by omega), ← hdl]
    obtain ⟨a', k1, k2⟩ := hend _ _ hd (by rw [hdl]; omega)
    exact ⟨_, _, a', k1, k2⟩
  · rw [r, show (if (4 : Int32) = 5 then (0 : Int32) else 4) = 4 from by decide, if_neg (by decide), if_neg (by decide), if_neg (by decide), if_pos rfl, if_neg (by decide), if_neg (by decide), if_neg (by decide), if_pos rfl, Page_put_ok (by omega) (by omega) c7, Option.bind_some]
    dsimp only
    have h1 : ar (upd a l.length (smF (fe l 0))) (l ++ [smF (fe l 0)]) := ar_push ha
    have hl1 : (l ++ [smF (fe l 0)]).length = l.length + 1 := by rw [List.length_append, List.length_singleton]
    obtain ⟨a', k1, k2⟩ := hend _ _ h1 (by rw [hl1]; omega)
    rw [hl1] at k1
    exact ⟨_, _, a', k1, k2⟩
  · rw [r, show (if (5 : Int32) = 5 then (0 : Int32) else 5) = 0 from by decide, if_neg (by decide), if_neg (by decide), if_neg (by decide), if_neg (by decide), if_neg (by decide), if_neg (by decide), if_neg (by decide), if_neg (by decide)]
    obtain ⟨a', k1, k2⟩ := hend _ _ ha (by omega)
    exact ⟨_, _, a', k1, k2⟩
theorem upd_last {a : Nat → Int32} {l : List Int32} {v : Int32} (ha : ar a l) (hl : 1 ≤ l.length) : ar (upd a (l.length - 1) v) (l.dropLast ++ [v]) := by
  have := ar_push (v := v) (ar_dropLast ha)
  rw [ar_len_dropLast] at this
  exact this
theorem mJoins_ok {N k m n ne : Nat} {al ax a : Nat → Int32} {l : List Int32} (hN : 9000 ≤ N) (hk : k < ne) (hne : ne ≤ 60) (hal : al k = nI m) (hm1 : 1 ≤ m) (hm : m ≤ 16) (hsm : ∀ j, j < m → isSm (ax (16 * k + j))) (ha : ar a l) (h7 : txt7 l) (hn : 1 ≤ n) (hnl : n ≤ l.length) (hl : l.length + 1 + m ≤ 8000) : ∃ a', jf_Model_joins N (nI k) (nI n) al ax (nI l.length) a = some (nI (sfx l n k m ax).length, a') ∧ ar a' (sfx l n k m ax) := by
  have hx := hsm 0 (by omega)
  rw [Nat.add_zero] at hx
  obtain ⟨q, hq, eq⟩ := fe_7 h7 (by omega : 0 < l.length)
  obtain ⟨-, -, -, -, -, -, c7⟩ := chr_all q hq
  rw [← eq] at c7
  have hrule := mRule_ok (N := N) (k := k) (ns := m) (s := isS k m ax) (x := ax (16 * k)) (atm := al) (atx := ax) hN ha h7 (by omega) hnl hn (by omega) hm1 hm hal rfl hx (by unfold isS; exact ⟨fun q => of_decide_eq_true q, fun q => decide_eq_true q⟩)
  have l0 : jf_Model_last 0 (nI l.length) (nI n) a = some (smF (fe l 0)) := by
    have := mLastAt (i := 0) ha h7 (by omega) hnl (by omega)
    rw [if_pos (by omega)] at this
    exact this
  have hby : jf_Model_byteOf (nI k) 0 ax = some (ax (16 * k)) := by
    have h0 : (16 * nI k + 0 : Int32) = nI (16 * k) := by
      rw [show (16 : Int32) = nI 16 from rfl, show (0 : Int32) = nI 0 from rfl, pk_mul, nI_add, Nat.add_zero]
    rw [jf_Model_byteOf, h0, p_ga (by omega) (by omega), p_cl (by omega), (smB hx).2]
  have hend : ∀ (l' : List Int32) (b : Nat → Int32), ar b l' → l'.length + m ≤ 8000 → ∃ a', jf_Model_joins_b114 N (nI k) al ax (nI l'.length) b = some (nI (l' ++ wl (fun j => ax (16 * k + j)) m 0).length, a') ∧ ar a' (l' ++ wl (fun j => ax (16 * k + j)) m 0) := by
    intro l' b hb' hl'
    rw [jf_Model_joins_b114]
    exact mSuf_loop hk hne hal hm hsm m 0 N l' b (by omega) (by omega) hb' hl'
  have hd : ar a l.dropLast := ar_dropLast ha
  have hdl : l.dropLast.length = l.length - 1 := ar_len_dropLast
  have e32 : jf_Model_joins N (nI k) (nI n) al ax (nI l.length) a = jf_Model_joins_b32 N (nI k) (nI n) al ax (rl l n (ax (16 * k)) (isS k m ax)) (if isS k m ax = true then 1 else 0) (nI l.length) a := by
    rw [jf_Model_joins, hrule, Option.bind_some, p_ga (by omega) (by omega), p_cl (by omega), hal]
    by_cases hm' : m = 1
    · rw [if_pos (show nI m = 1 from by rw [hm']; rfl), hby, Option.bind_some]
      by_cases hx5 : ax (16 * k) = 115
      · rw [if_pos hx5, if_pos (show isS k m ax = true from decide_eq_true ⟨hm', hx5⟩)]
      · rw [if_neg hx5, if_neg (show ¬ isS k m ax = true from fun q => hx5 (of_decide_eq_true q).2), jf_Model_joins_b31]
    · rw [if_neg (show ¬ nI m = 1 from p_ne (b := 1) hm' (by omega) (by omega)), if_neg (show ¬ isS k m ax = true from fun q => hm' (of_decide_eq_true q).1), jf_Model_joins_b31]
  rw [e32, jf_Model_joins_b32, l0, Option.bind_some]
  unfold sfx jn
  rcases rl_vals l n (ax (16 * k)) (isS k m ax) with r | r | r | r | r
  · rw [r, if_pos rfl, if_pos rfl, p_s1 (by omega), p_ga (by omega) (by omega), p_cl (by omega), show vp_nar .byte 105 = (105 : Int32) from by decide]
    have h1 : ar (upd a (l.length - 1) 105) (l.dropLast ++ [105]) := upd_last ha (by omega)
    have hl1 : (l.dropLast ++ [(105 : Int32)]).length = l.length := by rw [List.length_append, List.length_singleton, hdl]; omega
    by_cases hs : isS k m ax = true
    · rw [if_pos hs, if_pos hs, if_neg (by decide), Model_puts_ok (by omega) (by decide), Option.bind_some]
      dsimp only
      have h2 := ar_push (v := 101) h1
      obtain ⟨a', k1, k2⟩ := hend _ _ h2 (by rw [List.length_append, hl1, List.length_singleton]; omega)
      rw [List.length_append (as := l.dropLast ++ [105]), hl1, List.length_singleton] at k1
      exact ⟨a', k1, k2⟩
    · rw [if_neg hs, if_neg hs, if_pos rfl]
      obtain ⟨a', k1, k2⟩ := hend _ _ h1 (by rw [hl1]; omega)
      rw [hl1] at k1
      exact ⟨a', k1, k2⟩
  · rw [r, if_neg (by decide), if_pos rfl, if_neg (by decide), if_pos rfl, Model_puts_ok (by omega) (by decide), Option.bind_some]
    dsimp only
    have h1 : ar (upd a l.length 101) (l ++ [101]) := ar_push ha
    have hl1 : (l ++ [(101 : Int32)]).length = l.length + 1 := by rw [List.length_append, List.length_singleton]
    obtain ⟨a', k1, k2⟩ := hend _ _ h1 (by rw [hl1]; omega)
    rw [hl1] at k1
    exact ⟨a', k1, k2⟩
  · rw [r, if_neg (by decide), if_neg (by decide), if_pos rfl, if_neg (by decide), if_neg (by decide), if_pos rfl, p_s1 (by omega), ← hdl]
    exact hend _ _ hd (by rw [hdl]; omega)
  · rw [r, if_neg (by decide), if_neg (by decide), if_neg (by decide), if_pos rfl, if_neg (by decide), if_neg (by decide), if_neg (by decide), if_pos rfl, Model_puts_ok (by omega) c7, Option.bind_some]
    dsimp only
    have h1 : ar (upd a l.length (smF (fe l 0))) (l ++ [smF (fe l 0)]) := ar_push ha
    have hl1 : (l ++ [smF (fe l 0)]).length = l.length + 1 := by rw [List.length_append, List.length_singleton]
    obtain ⟨a', k1, k2⟩ := hend _ _ h1 (by rw [hl1]; omega)
    rw [hl1] at k1
    exact ⟨a', k1, k2⟩
  · rw [r, if_neg (by decide), if_neg (by decide), if_neg (by decide), if_neg (by decide), if_neg (by decide), if_neg (by decide), if_neg (by decide), if_neg (by decide)]
    exact hend _ _ ha (by omega)
