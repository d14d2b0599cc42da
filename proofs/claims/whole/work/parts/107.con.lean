abbrev jw_Chain_solve (E : jE) (q_this q_book q_costs q_picks q_book_kinds q_book_strokeCounts q_book_strokes q_book_lengths q_book_letters q_arg1 : Nat) (n_arg1 : Nat) (c_innerKind : Int32) (c_lastKind : Int32) (c_book_size : Int32) (a_arg1 : (Nat → Int32)) (a_book_kinds : (Nat → Int32)) (a_book_lengths : (Nat → Int32)) (a_book_letters : (Nat → Int32)) (a_book_strokeCounts : (Nat → Int32)) (a_costs : (Nat → Int32)) (a_picks : (Nat → Int32)) : va_W := [(q_this, .inr (1, [.ref q_book, .int c_innerKind, .int c_lastKind, .ref q_costs, .ref q_picks])), (q_book, .inr (0, [.ref q_book_kinds, .ref q_book_strokeCounts, .ref q_book_strokes, .ref q_book_lengths, .ref q_book_letters, .int c_book_size])), (q_arg1, .inl (E.2.1, n_arg1, .inl a_arg1)), (q_book_kinds, .inl (E.2.2.1, 60, .inl a_book_kinds)), (q_book_lengths, .inl (E.2.2.1, 60, .inl a_book_lengths)), (q_book_letters, .inl (E.2.1, 960, .inl a_book_letters)), (q_book_strokeCounts, .inl (E.2.2.1, 60, .inl a_book_strokeCounts)), (q_costs, .inl (E.2.2.1, 60, .inl a_costs)), (q_picks, .inl (E.2.2.1, 60, .inl a_picks))]
def jr_Chain_solve : Room := { frames := 3, cells := 0, slots := 0, locals := 72 }
set_option maxHeartbeats 4000000 in
set_option maxRecDepth 100000 in
theorem jc_Chain_solve (l : Launch) (E : jE) (q_this q_book q_costs q_picks q_book_kinds q_book_strokeCounts q_book_strokes q_book_lengths q_book_letters q_arg1 : Nat) (n_arg1 : Nat) (c_innerKind : Int32) (c_lastKind : Int32) (c_book_size : Int32) (a_arg1 : (Nat → Int32)) (a_book_kinds : (Nat → Int32)) (a_book_lengths : (Nat → Int32)) (a_book_letters : (Nat → Int32)) (a_book_strokeCounts : (Nat → Int32)) (a_costs : (Nat → Int32)) (a_picks : (Nat → Int32)) (x2 : Int32) (x3 : Int32) (N : Nat) {T : Int32 × (Nat → Int32) × (Nat → Int32)} (h : jf_Chain_solve N x2 x3 n_arg1 c_innerKind c_lastKind c_book_size a_arg1 a_book_kinds a_book_lengths a_book_letters a_book_strokeCounts a_costs a_picks = some T) : jMi l yX1_solve wsX1_solve jr_Chain_solve E [.ref q_this, .ref q_arg1, .int x2, .int x3] (jw_Chain_solve E q_this q_book q_costs q_picks q_book_kinds q_book_strokeCounts q_book_strokes q_book_lengths q_book_letters q_arg1 n_arg1 c_innerKind c_lastKind c_book_size a_arg1 a_book_kinds a_book_lengths a_book_letters a_book_strokeCounts a_costs a_picks) (T.1) (jw_Chain_solve E q_this q_book q_costs q_picks q_book_kinds q_book_strokeCounts q_book_strokes q_book_lengths q_book_letters q_arg1 n_arg1 c_innerKind c_lastKind c_book_size a_arg1 a_book_kinds a_book_lengths a_book_letters a_book_strokeCounts T.2.1 T.2.2) := by
  refine jMi.begin (cc := cX1_solve) (maxL := 5) (ret := (some .int)) (by decide) rfl (Nat.le_of_ble_eq_true rfl) ?_
  intro p e s m args below meth c A ls Q hQ hx hb hr hml hown hlocks hts hK hA hP hD hS hl
  replace hown : s.vm.findClass RX1 = some m.cls := hown
  replace hl : lv_has ls 5 [(0, .ref q_this), (1, .ref q_arg1), (2, .int x2), (3, .int x3)] := hl
  have hin1 : ∀ w ∈ u_ws RX1 TX1 5, w ∈ wsX1_solve := by decide +kernel
  have hk_9 := hts (.fieldLink RX1 9 "StenoRoom$Chain" "costs" "[I") (by decide +kernel)
  have kb15 : ∀ (a_costs : (Nat → Int32)) (a_picks : (Nat → Int32)) (H : Heap) (locs : List Loc) (ls : Array Slot), jf_Chain_solve_b15 a_costs a_picks = some T → va_P E.1 vwCl (jw_Chain_solve E q_this q_book q_costs q_picks q_book_kinds q_book_strokeCounts q_book_strokes q_book_lengths q_book_letters q_arg1 n_arg1 c_innerKind c_lastKind c_book_size a_arg1 a_book_kinds a_book_lengths a_book_letters a_book_strokeCounts a_costs a_picks) H → va_D A (jw_Chain_solve E q_this q_book q_costs q_picks q_book_kinds q_book_strokeCounts q_book_strokes q_book_lengths q_book_letters q_arg1 n_arg1 c_innerKind c_lastKind c_book_size a_arg1 a_book_kinds a_book_lengths a_book_letters a_book_strokeCounts a_costs a_picks) → va_S A s.heap H locs → lv_has ls 5 [(0, .ref q_this), (1, .ref q_arg1)] → W p l e jr_Chain_solve s m args below meth c H locs 0 0 Q (F0 m 15 ls []) := by
    intro  a_costs a_picks H locs ls h hP hD hS hl
    unfold jf_Chain_solve_b15 at h
    refine lv_ldc (v := 2147483647) hx hb hown (hts (.constant RX1 29 2147483647) (by decide +kernel)) dX1_solve_15 ?_
    exact j_iret (u := (2147483647, a_costs, a_picks)) (rv := (fun T => T.1)) (wv := (fun T => (jw_Chain_solve E q_this q_book q_costs q_picks q_book_kinds q_book_strokeCounts q_book_strokes q_book_lengths q_book_letters q_arg1 n_arg1 c_innerKind c_lastKind c_book_size a_arg1 a_book_kinds a_book_lengths a_book_letters a_book_strokeCounts T.2.1 T.2.2))) h hQ hx hb hr rfl hlocks hS hP hD dX1_solve_17
  have kb43 : ∀ (a_costs : (Nat → Int32)) (a_picks : (Nat → Int32)) (H : Heap) (locs : List Loc) (ls : Array Slot), jf_Chain_solve_b43 x2 a_costs a_picks = some T → va_P E.1 vwCl (jw_Chain_solve E q_this q_book q_costs q_picks q_book_kinds q_book_strokeCounts q_book_strokes q_book_lengths q_book_letters q_arg1 n_arg1 c_innerKind c_lastKind c_book_size a_arg1 a_book_kinds a_book_lengths a_book_letters a_book_strokeCounts a_costs a_picks) H → va_D A (jw_Chain_solve E q_this q_book q_costs q_picks q_book_kinds q_book_strokeCounts q_book_strokes q_book_lengths q_book_letters q_arg1 n_arg1 c_innerKind c_lastKind c_book_size a_arg1 a_book_kinds a_book_lengths a_book_letters a_book_strokeCounts a_costs a_picks) → va_S A s.heap H locs → lv_has ls 5 [(0, .ref q_this), (1, .ref q_arg1), (2, .int x2)] → W p l e jr_Chain_solve s m args below meth c H locs 0 0 Q (F0 m 43 ls []) := by
    intro  a_costs a_picks H locs ls h hP hD hS hl
    unfold jf_Chain_solve_b43 at h
    refine lv_aload_n hx hb dX1_solve_43 rfl (lv_at hl 0 rfl) ?_
    refine va_get (D := E.1) (ci := 1) (v := .ref q_costs) (C := RX1) (T := TX1) (N := 5) hx hb hts hin1 hown hK.1 hP 0 rfl rfl 3 (by decide) hk_9 (fun _ h9 => h9) rfl dX1_solve_44 ?_
    refine lv_iload_n hx hb dX1_solve_47 rfl (lv_at hl 2 rfl) ?_
    obtain ⟨g48, h⟩ := jga_e h
    refine va_iald hx hb hK.1 hP 7 1 rfl rfl g48 dX1_solve_48 ?_
    exact j_iret (u := ((a_costs x2.toNatClampNeg), a_costs, a_picks)) (rv := (fun T => T.1)) (wv := (fun T => (jw_Chain_solve E q_this q_book q_costs q_picks q_book_kinds q_book_strokeCounts q_book_strokes q_book_lengths q_book_letters q_arg1 n_arg1 c_innerKind c_lastKind c_book_size a_arg1 a_book_kinds a_book_lengths a_book_letters a_book_strokeCounts T.2.1 T.2.2))) h hQ hx hb hr rfl hlocks hS hP hD dX1_solve_49
  have kb23 : ∀ (n : Nat) (x4 : Int32) (a_costs : (Nat → Int32)) (a_picks : (Nat → Int32)) (H : Heap) (locs : List Loc) (ls : Array Slot), jf_Chain_solve_b23 N x2 x3 n_arg1 c_innerKind c_lastKind c_book_size a_arg1 a_book_kinds a_book_lengths a_book_letters a_book_strokeCounts n x4 a_costs a_picks = some T → va_P E.1 vwCl (jw_Chain_solve E q_this q_book q_costs q_picks q_book_kinds q_book_strokeCounts q_book_strokes q_book_lengths q_book_letters q_arg1 n_arg1 c_innerKind c_lastKind c_book_size a_arg1 a_book_kinds a_book_lengths a_book_letters a_book_strokeCounts a_costs a_picks) H → va_D A (jw_Chain_solve E q_this q_book q_costs q_picks q_book_kinds q_book_strokeCounts q_book_strokes q_book_lengths q_book_letters q_arg1 n_arg1 c_innerKind c_lastKind c_book_size a_arg1 a_book_kinds a_book_lengths a_book_letters a_book_strokeCounts a_costs a_picks) → va_S A s.heap H locs → lv_has ls 5 [(0, .ref q_this), (1, .ref q_arg1), (2, .int x2), (3, .int x3), (4, .int x4)] → W p l e jr_Chain_solve s m args below meth c H locs 0 0 Q (F0 m 23 ls []) := by
    intro n
    induction n with
    | zero => intro x4 a_costs a_picks H locs ls h; exact j_none (α := Int32 × (Nat → Int32) × (Nat → Int32)) h
    | succ n ih =>
      intro x4 a_costs a_picks H locs ls h hP hD hS hl
      rw [jf_Chain_solve_b23] at h
      refine lv_iload hx hb dX1_solve_23 (lv_at hl 4 rfl) ?_
      refine lv_iload_n hx hb dX1_solve_25 rfl (lv_at hl 2 rfl) ?_
      refine lv_icmp_lt (tgt := 43) hx hb dX1_solve_26 (by decide) (fun hq26 => ?_) (fun hq26 => ?_)
      · replace h := jif_t hq26 h
        exact kb43   a_costs a_picks _ _ _ h hP hD hS (lv_sub hl [0, 1, 2] rfl)
      · replace h := jif_f hq26 h
        refine lv_aload_n hx hb dX1_solve_29 rfl (lv_at hl 0 rfl) ?_
        refine lv_aload_n hx hb dX1_solve_30 rfl (lv_at hl 1 rfl) ?_
        refine lv_iload hx hb dX1_solve_31 (lv_at hl 4 rfl) ?_
        refine lv_iload_n hx hb dX1_solve_33 rfl (lv_at hl 3 rfl) ?_
        obtain ⟨⟨a_costs_34, a_picks_34⟩, hf34, h⟩ := jbd h
        refine j_callVv (own := RX1) (As := [.ref q_arg1, .int x4, .int x3]) (rest := []) hx hb hml hown hts hK hA hP hD hS (jc_Chain_pickFor l E q_this q_book q_costs q_picks q_book_kinds q_book_strokeCounts q_book_strokes q_book_lengths q_book_letters q_arg1 n_arg1 c_innerKind c_lastKind c_book_size a_arg1 a_book_kinds a_book_lengths a_book_letters a_book_strokeCounts a_costs a_picks x4 x3 N hf34) gX1_solve_X1_pickFor rfl ⟨rfl, rfl⟩ 3 (by decide +kernel) rfl rfl 0 1 rfl rfl [0, 1, 2, 3, 4, 5, 6, 7, 8] [] [0, 1, 2, 3, 4, 5, 6, 7, 8] rfl rfl rfl rfl rfl rfl rfl hl.1 rfl rfl dX1_solve_34 (fun H locs hP hD hS => ?_)
        replace hP : va_P E.1 vwCl (jw_Chain_solve E q_this q_book q_costs q_picks q_book_kinds q_book_strokeCounts q_book_strokes q_book_lengths q_book_letters q_arg1 n_arg1 c_innerKind c_lastKind c_book_size a_arg1 a_book_kinds a_book_lengths a_book_letters a_book_strokeCounts a_costs_34 a_picks_34) H := hP
        replace hD : va_D A (jw_Chain_solve E q_this q_book q_costs q_picks q_book_kinds q_book_strokeCounts q_book_strokes q_book_lengths q_book_letters q_arg1 n_arg1 c_innerKind c_lastKind c_book_size a_arg1 a_book_kinds a_book_lengths a_book_letters a_book_strokeCounts a_costs_34 a_picks_34) := hD
        refine lv_iinc (v := (x4 + (-1))) (lv' := [(4, .int (x4 + (-1))), (0, .ref q_this), (1, .ref q_arg1), (2, .int x2), (3, .int x3)]) hx hb dX1_solve_37 hl (k := 4) rfl rfl (by decide) rfl (fun ls hl => ?_)
        refine lv_goto (tgt := 23) hx hb dX1_solve_40 (by decide) ?_
        exact ih (x4 + (-1)) a_costs_34 a_picks_34 _ _ _ h hP hD hS (lv_sub hl [1, 2, 3, 4, 0] rfl)
  unfold jf_Chain_solve at h
  refine lv_iload_n hx hb dX1_solve_0 rfl (lv_at hl 2 rfl) ?_
  refine lv_if_lt (tgt := 15) hx hb dX1_solve_1 (by decide) (fun hq1 => ?_) (fun hq1 => ?_)
  · replace h := jif_t hq1 h
    exact kb15   a_costs a_picks _ _ _ h hP hD hS (lv_sub hl [0, 1] rfl)
  · replace h := jif_f hq1 h
    refine lv_iload_n hx hb dX1_solve_4 rfl (lv_at hl 2 rfl) ?_
    refine lv_iload_n hx hb dX1_solve_5 rfl (lv_at hl 3 rfl) ?_
    refine lv_icmp_ge (tgt := 15) hx hb dX1_solve_6 (by decide) (fun hq6 => ?_) (fun hq6 => ?_)
    · replace h := jif_t hq6 h
      exact kb15   a_costs a_picks _ _ _ h hP hD hS (lv_sub hl [0, 1] rfl)
    · replace h := jif_f hq6 h
      refine lv_iload_n hx hb dX1_solve_9 rfl (lv_at hl 3 rfl) ?_
      refine lv_bipush (v := 60) hx hb dX1_solve_10 (by decide) ?_
      refine lv_icmp_le (tgt := 18) hx hb dX1_solve_12 (by decide) (fun hq12 => ?_) (fun hq12 => ?_)
      · replace h := jif_t hq12 h
        refine lv_iload_n hx hb dX1_solve_18 rfl (lv_at hl 3 rfl) ?_
        refine lv_iconst (v := 1) hx hb dX1_solve_19 (by decide) ?_
        refine lv_isub hx hb dX1_solve_20 ?_
        refine lv_istore (lv' := [(4, .int (x3 - 1)), (0, .ref q_this), (1, .ref q_arg1), (2, .int x2), (3, .int x3)]) hx hb dX1_solve_21 hl (by decide) rfl (fun ls hl => ?_)
        exact kb23  N (x3 - 1) a_costs a_picks _ _ _ h hP hD hS (lv_sub hl [1, 2, 3, 4, 0] rfl)
      · replace h := jif_f hq12 h
        exact kb15   a_costs a_picks _ _ _ h hP hD hS (lv_sub hl [0, 1] rfl)
abbrev jw_Join_mayBegin (E : jE) (q_this q_book q_trial q_book_kinds q_book_strokeCounts q_book_strokes q_book_lengths q_book_letters q_arg2 : Nat) (n_arg2 : Nat) (c_word : Int32) (c_suffix : Int32) (c_book_size : Int32) (a_arg2 : (Nat → Int32)) (a_book_kinds : (Nat → Int32)) (a_book_lengths : (Nat → Int32)) (a_book_letters : (Nat → Int32)) : va_W := [(q_this, .inr (3, [.ref q_book, .ref q_trial, .int c_word, .int c_suffix])), (q_book, .inr (0, [.ref q_book_kinds, .ref q_book_strokeCounts, .ref q_book_strokes, .ref q_book_lengths, .ref q_book_letters, .int c_book_size])), (q_arg2, .inl (E.2.1, n_arg2, .inl a_arg2)), (q_book_kinds, .inl (E.2.2.1, 60, .inl a_book_kinds)), (q_book_lengths, .inl (E.2.2.1, 60, .inl a_book_lengths)), (q_book_letters, .inl (E.2.1, 960, .inl a_book_letters))]
def jr_Join_mayBegin : Room := { frames := 2, cells := 0, slots := 0, locals := 46 }
set_option maxHeartbeats 4000000 in
set_option maxRecDepth 100000 in
theorem jc_Join_mayBegin (l : Launch) (E : jE) (q_this q_book q_trial q_book_kinds q_book_strokeCounts q_book_strokes q_book_lengths q_book_letters q_arg2 : Nat) (n_arg2 : Nat) (c_word : Int32) (c_suffix : Int32) (c_book_size : Int32) (a_arg2 : (Nat → Int32)) (a_book_kinds : (Nat → Int32)) (a_book_lengths : (Nat → Int32)) (a_book_letters : (Nat → Int32)) (x1 : Int32) (x3 : Int32) (x4 : Int32) (N : Nat) {T : Int32} (h : jf_Join_mayBegin N x1 x3 x4 n_arg2 c_book_size a_arg2 a_book_kinds a_book_lengths a_book_letters = some T) : jMi l yX3_mayBegin wsX3_mayBegin jr_Join_mayBegin E [.ref q_this, .int x1, .ref q_arg2, .int x3, .int x4] (jw_Join_mayBegin E q_this q_book q_trial q_book_kinds q_book_strokeCounts q_book_strokes q_book_lengths q_book_letters q_arg2 n_arg2 c_word c_suffix c_book_size a_arg2 a_book_kinds a_book_lengths a_book_letters) (T) (jw_Join_mayBegin E q_this q_book q_trial q_book_kinds q_book_strokeCounts q_book_strokes q_book_lengths q_book_letters q_arg2 n_arg2 c_word c_suffix c_book_size a_arg2 a_book_kinds a_book_lengths a_book_letters) := by
  refine jMi.begin (cc := cX3_mayBegin) (maxL := 6) (ret := (some .boolean)) (by decide) rfl (Nat.le_of_ble_eq_true rfl) ?_
  intro p e s m args below meth c A ls Q hQ hx hb hr hml hown hlocks hts hK hA hP hD hS hl
  replace hown : s.vm.findClass RX3 = some m.cls := hown
  replace hl : lv_has ls 6 [(0, .ref q_this), (1, .int x1), (2, .ref q_arg2), (3, .int x3), (4, .int x4)] := hl
  have hin3 : ∀ w ∈ u_ws RX3 TX3 4, w ∈ wsX3_mayBegin := by decide +kernel
  have hk_9 := hts (.fieldLink RX3 9 "StenoRoom$Join" "book" "LStenoRoom$Book;") (by decide +kernel)
  unfold jf_Join_mayBegin at h
  refine lv_aload_n hx hb dX3_mayBegin_0 rfl (lv_at hl 0 rfl) ?_
  refine va_get (D := E.1) (ci := 3) (v := .ref q_book) (C := RX3) (T := TX3) (N := 4) hx hb hts hin3 hown hK.1 hP 0 rfl rfl 0 (by decide) hk_9 (fun _ h9 => h9) rfl dX3_mayBegin_1 ?_
  refine lv_iload_n hx hb dX3_mayBegin_4 rfl (lv_at hl 1 rfl) ?_
  obtain ⟨r5, hf5, h⟩ := jbd h
  refine j_callVi (own := RX3) (As := [.int x1]) (rest := []) hx hb hml hown hts hK hA hP hD hS (jc_Book_lengthOf l E q_book q_book_kinds q_book_strokeCounts q_book_strokes q_book_lengths q_book_letters c_book_size a_book_lengths x1 N hf5) gX3_mayBegin_X0_lengthOf rfl ⟨rfl, rfl⟩ 1 (by decide +kernel) rfl rfl 1 0 rfl rfl [1, 4] [0, 2, 3, 5] [0, 4, 1, 2, 5, 3] rfl rfl rfl rfl rfl rfl rfl hl.1 rfl rfl dX3_mayBegin_5 (fun H locs hP hD hS => ?_)
  replace hP : va_P E.1 vwCl (jw_Join_mayBegin E q_this q_book q_trial q_book_kinds q_book_strokeCounts q_book_strokes q_book_lengths q_book_letters q_arg2 n_arg2 c_word c_suffix c_book_size a_arg2 a_book_kinds a_book_lengths a_book_letters) H := hP
  replace hD : va_D A (jw_Join_mayBegin E q_this q_book q_trial q_book_kinds q_book_strokeCounts q_book_strokes q_book_lengths q_book_letters q_arg2 n_arg2 c_word c_suffix c_book_size a_arg2 a_book_kinds a_book_lengths a_book_letters) := hD
  refine lv_iconst (v := 1) hx hb dX3_mayBegin_8 (by decide) ?_
  refine lv_isub hx hb dX3_mayBegin_9 ?_
  refine lv_istore (lv' := [(5, .int (r5 - 1)), (0, .ref q_this), (1, .int x1), (2, .ref q_arg2), (3, .int x3), (4, .int x4)]) hx hb dX3_mayBegin_10 hl (by decide) rfl (fun ls hl => ?_)
  refine lv_aload_n hx hb dX3_mayBegin_12 rfl (lv_at hl 1 rfl) ?_
  refine va_get (D := E.1) (ci := 3) (v := .ref q_book) (C := RX3) (T := TX3) (N := 4) hx hb hts hin3 hown hK.1 hP 0 rfl rfl 0 (by decide) hk_9 (fun _ h9 => h9) rfl dX3_mayBegin_13 ?_
  refine lv_iload_n hx hb dX3_mayBegin_16 rfl (lv_at hl 2 rfl) ?_
  obtain ⟨r17, hf17, h⟩ := jbd h
  refine j_callVi (own := RX3) (As := [.int x1]) (rest := []) hx hb hml hown hts hK hA hP hD hS (jc_Book_kindOf l E q_book q_book_kinds q_book_strokeCounts q_book_strokes q_book_lengths q_book_letters c_book_size a_book_kinds x1 N hf17) gX3_mayBegin_X0_kindOf rfl ⟨rfl, rfl⟩ 1 (by decide +kernel) rfl rfl 1 0 rfl rfl [1, 3] [0, 2, 4, 5] [0, 4, 1, 5, 2, 3] rfl rfl rfl rfl rfl rfl rfl hl.1 rfl rfl dX3_mayBegin_17 (fun H locs hP hD hS => ?_)
  replace hP : va_P E.1 vwCl (jw_Join_mayBegin E q_this q_book q_trial q_book_kinds q_book_strokeCounts q_book_strokes q_book_lengths q_book_letters q_arg2 n_arg2 c_word c_suffix c_book_size a_arg2 a_book_kinds a_book_lengths a_book_letters) H := hP
  replace hD : va_D A (jw_Join_mayBegin E q_this q_book q_trial q_book_kinds q_book_strokeCounts q_book_strokes q_book_lengths q_book_letters q_arg2 n_arg2 c_word c_suffix c_book_size a_arg2 a_book_kinds a_book_lengths a_book_letters) := hD
  refine lv_if_ne (tgt := 51) hx hb dX3_mayBegin_20 (by decide) (fun hq20 => ?_) (fun hq20 => ?_)
  · replace h := jif_f hq20 h
    refine lv_iconst (v := 0) hx hb dX3_mayBegin_51 (by decide) ?_
    exact j_iret (u := 0) (rv := (fun T => T)) (wv := (fun _ => (jw_Join_mayBegin E q_this q_book q_trial q_book_kinds q_book_strokeCounts q_book_strokes q_book_lengths q_book_letters q_arg2 n_arg2 c_word c_suffix c_book_size a_arg2 a_book_kinds a_book_lengths a_book_letters))) h hQ hx hb hr jb_0 hlocks hS hP hD dX3_mayBegin_52
  · replace h := jif_t hq20 h
    refine lv_iload hx hb dX3_mayBegin_23 (lv_at hl 0 rfl) ?_
    refine lv_iload hx hb dX3_mayBegin_25 (lv_at hl 5 rfl) ?_
    refine lv_iload_n hx hb dX3_mayBegin_27 rfl (lv_at hl 4 rfl) ?_
    refine lv_isub hx hb dX3_mayBegin_28 ?_
    refine lv_icmp_ge (tgt := 51) hx hb dX3_mayBegin_29 (by decide) (fun hq29 => ?_) (fun hq29 => ?_)
    · replace h := jif_t hq29 h
      refine lv_iconst (v := 0) hx hb dX3_mayBegin_51 (by decide) ?_
      exact j_iret (u := 0) (rv := (fun T => T)) (wv := (fun _ => (jw_Join_mayBegin E q_this q_book q_trial q_book_kinds q_book_strokeCounts q_book_strokes q_book_lengths q_book_letters q_arg2 n_arg2 c_word c_suffix c_book_size a_arg2 a_book_kinds a_book_lengths a_book_letters))) h hQ hx hb hr jb_0 hlocks hS hP hD dX3_mayBegin_52
    · replace h := jif_f hq29 h
      refine lv_aload_n hx hb dX3_mayBegin_32 rfl (lv_at hl 1 rfl) ?_
      refine va_get (D := E.1) (ci := 3) (v := .ref q_book) (C := RX3) (T := TX3) (N := 4) hx hb hts hin3 hown hK.1 hP 0 rfl rfl 0 (by decide) hk_9 (fun _ h9 => h9) rfl dX3_mayBegin_33 ?_
      refine lv_iload_n hx hb dX3_mayBegin_36 rfl (lv_at hl 2 rfl) ?_
      refine lv_iload hx hb dX3_mayBegin_37 (lv_at hl 0 rfl) ?_
      refine lv_aload_n hx hb dX3_mayBegin_39 rfl (lv_at hl 3 rfl) ?_
      refine lv_iload_n hx hb dX3_mayBegin_40 rfl (lv_at hl 4 rfl) ?_
      obtain ⟨r41, hf41, h⟩ := jbd h
      refine j_callVi (own := RX3) (As := [.int x1, .int (r5 - 1), .ref q_arg2, .int x3]) (rest := []) hx hb hml hown hts hK hA hP hD hS (jc_Book_areLettersAt l E q_book q_book_kinds q_book_strokeCounts q_book_strokes q_book_lengths q_book_letters q_arg2 n_arg2 c_book_size a_arg2 a_book_lengths a_book_letters x1 (r5 - 1) x3 N hf41) gX3_mayBegin_X0_areLettersAt rfl ⟨rfl, rfl⟩ 4 (by decide +kernel) rfl rfl 1 0 rfl rfl [1, 2, 4, 5] [0, 3] [0, 2, 3, 1, 4, 5] rfl rfl rfl rfl rfl rfl rfl hl.1 rfl rfl dX3_mayBegin_41 (fun H locs hP hD hS => ?_)
      replace hP : va_P E.1 vwCl (jw_Join_mayBegin E q_this q_book q_trial q_book_kinds q_book_strokeCounts q_book_strokes q_book_lengths q_book_letters q_arg2 n_arg2 c_word c_suffix c_book_size a_arg2 a_book_kinds a_book_lengths a_book_letters) H := hP
      replace hD : va_D A (jw_Join_mayBegin E q_this q_book q_trial q_book_kinds q_book_strokeCounts q_book_strokes q_book_lengths q_book_letters q_arg2 n_arg2 c_word c_suffix c_book_size a_arg2 a_book_kinds a_book_lengths a_book_letters) := hD
      refine lv_if_eq (tgt := 51) hx hb dX3_mayBegin_44 (by decide) (fun hq44 => ?_) (fun hq44 => ?_)
      · replace h := jif_t hq44 h
        refine lv_iconst (v := 0) hx hb dX3_mayBegin_51 (by decide) ?_
        exact j_iret (u := 0) (rv := (fun T => T)) (wv := (fun _ => (jw_Join_mayBegin E q_this q_book q_trial q_book_kinds q_book_strokeCounts q_book_strokes q_book_lengths q_book_letters q_arg2 n_arg2 c_word c_suffix c_book_size a_arg2 a_book_kinds a_book_lengths a_book_letters))) h hQ hx hb hr jb_0 hlocks hS hP hD dX3_mayBegin_52
      · replace h := jif_f hq44 h
        refine lv_iconst (v := 1) hx hb dX3_mayBegin_47 (by decide) ?_
        refine lv_goto (tgt := 52) hx hb dX3_mayBegin_48 (by decide) ?_
        exact j_iret (u := 1) (rv := (fun T => T)) (wv := (fun _ => (jw_Join_mayBegin E q_this q_book q_trial q_book_kinds q_book_strokeCounts q_book_strokes q_book_lengths q_book_letters q_arg2 n_arg2 c_word c_suffix c_book_size a_arg2 a_book_kinds a_book_lengths a_book_letters))) h hQ hx hb hr jb_1 hlocks hS hP hD dX3_mayBegin_52
abbrev jw_Page_isAt (E : jE) (q_this q_book q_bytes q_arg1 : Nat) (n_arg1 n_bytes : Nat) (c_size : Int32) (c_shift : Int32) (c_link : Int32) (c_lastWordLength : Int32) (c_lastWordVowels : Int32) (a_arg1 : (Nat → Int32)) (a_bytes : (Nat → Int32)) : va_W := [(q_this, .inr (4, [.ref q_book, .ref q_bytes, .int c_size, .int c_shift, .int c_link, .int c_lastWordLength, .int c_lastWordVowels])), (q_arg1, .inl (E.2.1, n_arg1, .inl a_arg1)), (q_bytes, .inl (E.2.1, n_bytes, .inl a_bytes))]
def jr_Page_isAt : Room := { frames := 0, cells := 0, slots := 0, locals := 0 }
set_option maxHeartbeats 4000000 in
set_option maxRecDepth 100000 in
theorem jc_Page_isAt (l : Launch) (E : jE) (q_this q_book q_bytes q_arg1 : Nat) (n_arg1 n_bytes : Nat) (c_size : Int32) (c_shift : Int32) (c_link : Int32) (c_lastWordLength : Int32) (c_lastWordVowels : Int32) (a_arg1 : (Nat → Int32)) (a_bytes : (Nat → Int32)) (x2 : Int32) (x3 : Int32) (N : Nat) {T : Int32} (h : jf_Page_isAt N x2 x3 n_arg1 n_bytes c_size a_arg1 a_bytes = some T) : jMi l yX4_isAt wsX4_isAt jr_Page_isAt E [.ref q_this, .ref q_arg1, .int x2, .int x3] (jw_Page_isAt E q_this q_book q_bytes q_arg1 n_arg1 n_bytes c_size c_shift c_link c_lastWordLength c_lastWordVowels a_arg1 a_bytes) (T) (jw_Page_isAt E q_this q_book q_bytes q_arg1 n_arg1 n_bytes c_size c_shift c_link c_lastWordLength c_lastWordVowels a_arg1 a_bytes) := by
  refine jMi.begin (cc := cX4_isAt) (maxL := 5) (ret := (some .boolean)) (by decide) rfl (Nat.le_of_ble_eq_true rfl) ?_
  intro p e s m args below meth c A ls Q hQ hx hb hr hml hown hlocks hts hK hA hP hD hS hl
  replace hown : s.vm.findClass RX4 = some m.cls := hown
  replace hl : lv_has ls 5 [(0, .ref q_this), (1, .ref q_arg1), (2, .int x2), (3, .int x3)] := hl
  have hin4 : ∀ w ∈ u_ws RX4 TX4 7, w ∈ wsX4_isAt := by decide +kernel
  have hk_21 := hts (.fieldLink RX4 21 "StenoRoom$Page" "bytes" "[B") (by decide +kernel)
  have hk_25 := hts (.fieldLink RX4 25 "StenoRoom$Page" "size" "I") (by decide +kernel)
  have kb25 : ∀ (n : Nat) (x4 : Int32) (H : Heap) (locs : List Loc) (ls : Array Slot), jf_Page_isAt_b25 x2 n_arg1 n_bytes c_size a_arg1 a_bytes n x4 = some T → va_P E.1 vwCl (jw_Page_isAt E q_this q_book q_bytes q_arg1 n_arg1 n_bytes c_size c_shift c_link c_lastWordLength c_lastWordVowels a_arg1 a_bytes) H → va_D A (jw_Page_isAt E q_this q_book q_bytes q_arg1 n_arg1 n_bytes c_size c_shift c_link c_lastWordLength c_lastWordVowels a_arg1 a_bytes) → va_S A s.heap H locs → lv_has ls 5 [(0, .ref q_this), (1, .ref q_arg1), (2, .int x2), (4, .int x4)] → W p l e jr_Page_isAt s m args below meth c H locs 0 0 Q (F0 m 25 ls []) := by
    intro n
    induction n with
    | zero => intro x4 H locs ls h; exact j_none (α := Int32) h
    | succ n ih =>
      intro x4 H locs ls h hP hD hS hl
      rw [jf_Page_isAt_b25] at h
      refine lv_iload hx hb dX4_isAt_25 (lv_at hl 3 rfl) ?_
      refine lv_aload_n hx hb dX4_isAt_27 rfl (lv_at hl 0 rfl) ?_
      refine va_get (D := E.1) (ci := 4) (v := .int c_size) (C := RX4) (T := TX4) (N := 7) hx hb hts hin4 hown hK.1 hP 0 rfl rfl 2 (by decide) hk_25 (fun _ h9 => h9) rfl dX4_isAt_28 ?_
      refine lv_icmp_ge (tgt := 58) hx hb dX4_isAt_31 (by decide) (fun hq31 => ?_) (fun hq31 => ?_)
      · replace h := jif_t hq31 h
        refine lv_iconst (v := 1) hx hb dX4_isAt_58 (by decide) ?_
        exact j_iret (u := 1) (rv := (fun T => T)) (wv := (fun _ => (jw_Page_isAt E q_this q_book q_bytes q_arg1 n_arg1 n_bytes c_size c_shift c_link c_lastWordLength c_lastWordVowels a_arg1 a_bytes))) h hQ hx hb hr jb_1 hlocks hS hP hD dX4_isAt_59
      · replace h := jif_f hq31 h
        refine lv_aload_n hx hb dX4_isAt_34 rfl (lv_at hl 1 rfl) ?_
        refine lv_iload_n hx hb dX4_isAt_35 rfl (lv_at hl 2 rfl) ?_
        refine lv_iload hx hb dX4_isAt_36 (lv_at hl 3 rfl) ?_
        refine lv_iadd hx hb dX4_isAt_38 ?_
        obtain ⟨g39, h⟩ := jga_e h
        refine va_bald hx hb hK.1 hP 1 0 rfl rfl g39 dX4_isAt_39 ?_
        refine lv_aload_n hx hb dX4_isAt_40 rfl (lv_at hl 0 rfl) ?_
        refine va_get (D := E.1) (ci := 4) (v := .ref q_bytes) (C := RX4) (T := TX4) (N := 7) hx hb hts hin4 hown hK.1 hP 0 rfl rfl 1 (by decide) hk_21 (fun _ h9 => h9) rfl dX4_isAt_41 ?_
        refine lv_iload hx hb dX4_isAt_44 (lv_at hl 3 rfl) ?_
        obtain ⟨g46, h⟩ := jga_e h
        refine va_bald hx hb hK.1 hP 2 0 rfl rfl g46 dX4_isAt_46 ?_
        refine lv_icmp_eq (tgt := 52) hx hb dX4_isAt_47 (by decide) (fun hq47 => ?_) (fun hq47 => ?_)
        · replace h := jif_t hq47 h
          refine lv_iinc (v := (x4 + 1)) (lv' := [(4, .int (x4 + 1)), (0, .ref q_this), (1, .ref q_arg1), (2, .int x2)]) hx hb dX4_isAt_52 hl (k := 3) rfl rfl (by decide) rfl (fun ls hl => ?_)
          refine lv_goto (tgt := 25) hx hb dX4_isAt_55 (by decide) ?_
          exact ih (x4 + 1) _ _ _ h hP hD hS (lv_sub hl [1, 2, 3, 0] rfl)
        · replace h := jif_f hq47 h
          refine lv_iconst (v := 0) hx hb dX4_isAt_50 (by decide) ?_
          exact j_iret (u := 0) (rv := (fun T => T)) (wv := (fun _ => (jw_Page_isAt E q_this q_book q_bytes q_arg1 n_arg1 n_bytes c_size c_shift c_link c_lastWordLength c_lastWordVowels a_arg1 a_bytes))) h hQ hx hb hr jb_0 hlocks hS hP hD dX4_isAt_51
  unfold jf_Page_isAt at h
  refine lv_iload_n hx hb dX4_isAt_0 rfl (lv_at hl 2 rfl) ?_
  refine lv_if_lt (tgt := 20) hx hb dX4_isAt_1 (by decide) (fun hq1 => ?_) (fun hq1 => ?_)
  · replace h := jif_t hq1 h
    refine lv_iconst (v := 0) hx hb dX4_isAt_20 (by decide) ?_
    exact j_iret (u := 0) (rv := (fun T => T)) (wv := (fun _ => (jw_Page_isAt E q_this q_book q_bytes q_arg1 n_arg1 n_bytes c_size c_shift c_link c_lastWordLength c_lastWordVowels a_arg1 a_bytes))) h hQ hx hb hr jb_0 hlocks hS hP hD dX4_isAt_21
  · replace h := jif_f hq1 h
    refine lv_iload_n hx hb dX4_isAt_4 rfl (lv_at hl 3 rfl) ?_
    refine lv_aload_n hx hb dX4_isAt_5 rfl (lv_at hl 1 rfl) ?_
    refine va_alen hx hb hK.1 hP 1 0 rfl rfl (v := (nI n_arg1)) rfl dX4_isAt_6 ?_
    refine lv_icmp_gt (tgt := 20) hx hb dX4_isAt_7 (by decide) (fun hq7 => ?_) (fun hq7 => ?_)
    · replace h := jif_t hq7 h
      refine lv_iconst (v := 0) hx hb dX4_isAt_20 (by decide) ?_
      exact j_iret (u := 0) (rv := (fun T => T)) (wv := (fun _ => (jw_Page_isAt E q_this q_book q_bytes q_arg1 n_arg1 n_bytes c_size c_shift c_link c_lastWordLength c_lastWordVowels a_arg1 a_bytes))) h hQ hx hb hr jb_0 hlocks hS hP hD dX4_isAt_21
    · replace h := jif_f hq7 h
      refine lv_iload_n hx hb dX4_isAt_10 rfl (lv_at hl 3 rfl) ?_
      refine lv_iload_n hx hb dX4_isAt_11 rfl (lv_at hl 2 rfl) ?_
      refine lv_isub hx hb dX4_isAt_12 ?_
      refine lv_aload_n hx hb dX4_isAt_13 rfl (lv_at hl 0 rfl) ?_
      refine va_get (D := E.1) (ci := 4) (v := .int c_size) (C := RX4) (T := TX4) (N := 7) hx hb hts hin4 hown hK.1 hP 0 rfl rfl 2 (by decide) hk_25 (fun _ h9 => h9) rfl dX4_isAt_14 ?_
      refine lv_icmp_eq (tgt := 22) hx hb dX4_isAt_17 (by decide) (fun hq17 => ?_) (fun hq17 => ?_)
      · replace h := jif_t hq17 h
        refine lv_iconst (v := 0) hx hb dX4_isAt_22 (by decide) ?_
        refine lv_istore (lv' := [(4, .int 0), (0, .ref q_this), (1, .ref q_arg1), (2, .int x2), (3, .int x3)]) hx hb dX4_isAt_23 hl (by decide) rfl (fun ls hl => ?_)
        exact kb25  N 0 _ _ _ h hP hD hS (lv_sub hl [1, 2, 3, 0] rfl)
      · replace h := jif_f hq17 h
        refine lv_iconst (v := 0) hx hb dX4_isAt_20 (by decide) ?_
        exact j_iret (u := 0) (rv := (fun T => T)) (wv := (fun _ => (jw_Page_isAt E q_this q_book q_bytes q_arg1 n_arg1 n_bytes c_size c_shift c_link c_lastWordLength c_lastWordVowels a_arg1 a_bytes))) h hQ hx hb hr jb_0 hlocks hS hP hD dX4_isAt_21
abbrev jw_Join_isJoined (E : jE) (q_this q_book q_trial q_book_kinds q_book_strokeCounts q_book_strokes q_book_lengths q_book_letters q_trial_bytes q_arg3 : Nat) (n_arg3 : Nat) (c_word : Int32) (c_suffix : Int32) (c_book_size : Int32) (c_trial_size : Int32) (c_trial_shift : Int32) (c_trial_link : Int32) (c_trial_lastWordLength : Int32) (c_trial_lastWordVowels : Int32) (a_arg3 : (Nat → Int32)) (a_book_lengths : (Nat → Int32)) (a_book_letters : (Nat → Int32)) (a_trial_bytes : (Nat → Int32)) : va_W := [(q_this, .inr (3, [.ref q_book, .ref q_trial, .int c_word, .int c_suffix])), (q_book, .inr (0, [.ref q_book_kinds, .ref q_book_strokeCounts, .ref q_book_strokes, .ref q_book_lengths, .ref q_book_letters, .int c_book_size])), (q_trial, .inr (4, [.ref q_book, .ref q_trial_bytes, .int c_trial_size, .int c_trial_shift, .int c_trial_link, .int c_trial_lastWordLength, .int c_trial_lastWordVowels])), (q_arg3, .inl (E.2.1, n_arg3, .inl a_arg3)), (q_book_lengths, .inl (E.2.2.1, 60, .inl a_book_lengths)), (q_book_letters, .inl (E.2.1, 960, .inl a_book_letters)), (q_trial_bytes, .inl (E.2.1, 33, .inl a_trial_bytes))]
def jr_Join_isJoined : Room := { frames := 3, cells := 0, slots := 0, locals := 72 }
set_option maxHeartbeats 4000000 in
set_option maxRecDepth 100000 in
theorem jc_Join_isJoined (l : Launch) (E : jE) (q_this q_book q_trial q_book_kinds q_book_strokeCounts q_book_strokes q_book_lengths q_book_letters q_trial_bytes q_arg3 : Nat) (n_arg3 : Nat) (c_word : Int32) (c_suffix : Int32) (c_book_size : Int32) (c_trial_size : Int32) (c_trial_shift : Int32) (c_trial_link : Int32) (c_trial_lastWordLength : Int32) (c_trial_lastWordVowels : Int32) (a_arg3 : (Nat → Int32)) (a_book_lengths : (Nat → Int32)) (a_book_letters : (Nat → Int32)) (a_trial_bytes : (Nat → Int32)) (x1 : Int32) (x2 : Int32) (x4 : Int32) (x5 : Int32) (N : Nat) {T : Int32 × Int32 × Int32 × Int32 × Int32 × Int32 × (Nat → Int32)} (h : jf_Join_isJoined N x1 x2 x4 x5 n_arg3 c_book_size a_arg3 a_book_lengths a_book_letters c_trial_size c_trial_shift c_trial_link c_trial_lastWordLength c_trial_lastWordVowels a_trial_bytes = some T) : jMi l yX3_isJoined wsX3_isJoined jr_Join_isJoined E [.ref q_this, .int x1, .int x2, .ref q_arg3, .int x4, .int x5] (jw_Join_isJoined E q_this q_book q_trial q_book_kinds q_book_strokeCounts q_book_strokes q_book_lengths q_book_letters q_trial_bytes q_arg3 n_arg3 c_word c_suffix c_book_size c_trial_size c_trial_shift c_trial_link c_trial_lastWordLength c_trial_lastWordVowels a_arg3 a_book_lengths a_book_letters a_trial_bytes) (T.1) (jw_Join_isJoined E q_this q_book q_trial q_book_kinds q_book_strokeCounts q_book_strokes q_book_lengths q_book_letters q_trial_bytes q_arg3 n_arg3 c_word c_suffix c_book_size T.2.1 T.2.2.1 T.2.2.2.1 T.2.2.2.2.1 T.2.2.2.2.2.1 a_arg3 a_book_lengths a_book_letters T.2.2.2.2.2.2) := by
  refine jMi.begin (cc := cX3_isJoined) (maxL := 7) (ret := (some .boolean)) (by decide) rfl (Nat.le_of_ble_eq_true rfl) ?_
  intro p e s m args below meth c A ls Q hQ hx hb hr hml hown hlocks hts hK hA hP hD hS hl
  replace hown : s.vm.findClass RX3 = some m.cls := hown
  replace hl : lv_has ls 7 [(0, .ref q_this), (1, .int x1), (2, .int x2), (3, .ref q_arg3), (4, .int x4), (5, .int x5)] := hl
  have hin3 : ∀ w ∈ u_ws RX3 TX3 4, w ∈ wsX3_isJoined := by decide +kernel
  have hk_9 := hts (.fieldLink RX3 9 "StenoRoom$Join" "book" "LStenoRoom$Book;") (by decide +kernel)
  have hk_20 := hts (.fieldLink RX3 20 "StenoRoom$Join" "trial" "LStenoRoom$Page;") (by decide +kernel)
  unfold jf_Join_isJoined at h
  refine lv_aload_n hx hb dX3_isJoined_0 rfl (lv_at hl 0 rfl) ?_
  refine va_get (D := E.1) (ci := 3) (v := .ref q_book) (C := RX3) (T := TX3) (N := 4) hx hb hts hin3 hown hK.1 hP 0 rfl rfl 0 (by decide) hk_9 (fun _ h9 => h9) rfl dX3_isJoined_1 ?_
  refine lv_iload_n hx hb dX3_isJoined_4 rfl (lv_at hl 2 rfl) ?_
  obtain ⟨r5, hf5, h⟩ := jbd h
  refine j_callVi (own := RX3) (As := [.int x2]) (rest := []) hx hb hml hown hts hK hA hP hD hS (jc_Book_lengthOf l E q_book q_book_kinds q_book_strokeCounts q_book_strokes q_book_lengths q_book_letters c_book_size a_book_lengths x2 N hf5) gX3_isJoined_X0_lengthOf rfl ⟨rfl, rfl⟩ 1 (by decide +kernel) rfl rfl 1 0 rfl rfl [1, 4] [0, 2, 3, 5, 6] [0, 5, 1, 2, 6, 3, 4] rfl rfl rfl rfl rfl rfl rfl hl.1 rfl rfl dX3_isJoined_5 (fun H locs hP hD hS => ?_)
  replace hP : va_P E.1 vwCl (jw_Join_isJoined E q_this q_book q_trial q_book_kinds q_book_strokeCounts q_book_strokes q_book_lengths q_book_letters q_trial_bytes q_arg3 n_arg3 c_word c_suffix c_book_size c_trial_size c_trial_shift c_trial_link c_trial_lastWordLength c_trial_lastWordVowels a_arg3 a_book_lengths a_book_letters a_trial_bytes) H := hP
  replace hD : va_D A (jw_Join_isJoined E q_this q_book q_trial q_book_kinds q_book_strokeCounts q_book_strokes q_book_lengths q_book_letters q_trial_bytes q_arg3 n_arg3 c_word c_suffix c_book_size c_trial_size c_trial_shift c_trial_link c_trial_lastWordLength c_trial_lastWordVowels a_arg3 a_book_lengths a_book_letters a_trial_bytes) := hD
  refine lv_istore (lv' := [(6, .int r5), (0, .ref q_this), (1, .int x1), (2, .int x2), (3, .ref q_arg3), (4, .int x4), (5, .int x5)]) hx hb dX3_isJoined_8 hl (by decide) rfl (fun ls hl => ?_)
  refine lv_iload hx hb dX3_isJoined_10 (lv_at hl 0 rfl) ?_
  refine lv_iload hx hb dX3_isJoined_12 (lv_at hl 6 rfl) ?_
  refine lv_iload hx hb dX3_isJoined_14 (lv_at hl 5 rfl) ?_
  refine lv_isub hx hb dX3_isJoined_16 ?_
  refine lv_icmp_gt (tgt := 39) hx hb dX3_isJoined_17 (by decide) (fun hq17 => ?_) (fun hq17 => ?_)
  · replace h := jif_t hq17 h
    refine lv_iconst (v := 0) hx hb dX3_isJoined_39 (by decide) ?_
    exact j_iret (u := (0, c_trial_size, c_trial_shift, c_trial_link, c_trial_lastWordLength, c_trial_lastWordVowels, a_trial_bytes)) (rv := (fun T => T.1)) (wv := (fun T => (jw_Join_isJoined E q_this q_book q_trial q_book_kinds q_book_strokeCounts q_book_strokes q_book_lengths q_book_letters q_trial_bytes q_arg3 n_arg3 c_word c_suffix c_book_size T.2.1 T.2.2.1 T.2.2.2.1 T.2.2.2.2.1 T.2.2.2.2.2.1 a_arg3 a_book_lengths a_book_letters T.2.2.2.2.2.2))) h hQ hx hb hr jb_0 hlocks hS hP hD dX3_isJoined_40
  · replace h := jif_f hq17 h
    refine lv_aload_n hx hb dX3_isJoined_20 rfl (lv_at hl 1 rfl) ?_
    refine va_get (D := E.1) (ci := 3) (v := .ref q_book) (C := RX3) (T := TX3) (N := 4) hx hb hts hin3 hown hK.1 hP 0 rfl rfl 0 (by decide) hk_9 (fun _ h9 => h9) rfl dX3_isJoined_21 ?_
    refine lv_iload_n hx hb dX3_isJoined_24 rfl (lv_at hl 3 rfl) ?_
    refine lv_iload hx hb dX3_isJoined_25 (lv_at hl 0 rfl) ?_
    refine lv_aload_n hx hb dX3_isJoined_27 rfl (lv_at hl 4 rfl) ?_
    refine lv_iload hx hb dX3_isJoined_28 (lv_at hl 6 rfl) ?_
    refine lv_iload hx hb dX3_isJoined_30 (lv_at hl 0 rfl) ?_
    refine lv_isub hx hb dX3_isJoined_32 ?_
    obtain ⟨r33, hf33, h⟩ := jbd h
    refine j_callVi (own := RX3) (As := [.int x2, .int r5, .ref q_arg3, .int (x5 - r5)]) (rest := []) hx hb hml hown hts hK hA hP hD hS (jc_Book_areLettersAt l E q_book q_book_kinds q_book_strokeCounts q_book_strokes q_book_lengths q_book_letters q_arg3 n_arg3 c_book_size a_arg3 a_book_lengths a_book_letters x2 r5 (x5 - r5) N hf33) gX3_isJoined_X0_areLettersAt rfl ⟨rfl, rfl⟩ 4 (by decide +kernel) rfl rfl 1 0 rfl rfl [1, 3, 4, 5] [0, 2, 6] [0, 3, 1, 4, 5, 6, 2] rfl rfl rfl rfl rfl rfl rfl hl.1 rfl rfl dX3_isJoined_33 (fun H locs hP hD hS => ?_)
    replace hP : va_P E.1 vwCl (jw_Join_isJoined E q_this q_book q_trial q_book_kinds q_book_strokeCounts q_book_strokes q_book_lengths q_book_letters q_trial_bytes q_arg3 n_arg3 c_word c_suffix c_book_size c_trial_size c_trial_shift c_trial_link c_trial_lastWordLength c_trial_lastWordVowels a_arg3 a_book_lengths a_book_letters a_trial_bytes) H := hP
    replace hD : va_D A (jw_Join_isJoined E q_this q_book q_trial q_book_kinds q_book_strokeCounts q_book_strokes q_book_lengths q_book_letters q_trial_bytes q_arg3 n_arg3 c_word c_suffix c_book_size c_trial_size c_trial_shift c_trial_link c_trial_lastWordLength c_trial_lastWordVowels a_arg3 a_book_lengths a_book_letters a_trial_bytes) := hD
    refine lv_if_ne (tgt := 41) hx hb dX3_isJoined_36 (by decide) (fun hq36 => ?_) (fun hq36 => ?_)
    · replace h := jif_f hq36 h
      refine lv_aload_n hx hb dX3_isJoined_41 rfl (lv_at hl 1 rfl) ?_
      refine va_get (D := E.1) (ci := 3) (v := .ref q_trial) (C := RX3) (T := TX3) (N := 4) hx hb hts hin3 hown hK.1 hP 0 rfl rfl 1 (by decide) hk_20 (fun _ h9 => h9) rfl dX3_isJoined_42 ?_
      obtain ⟨⟨c_trial_size_45, c_trial_shift_45, c_trial_link_45⟩, hf45, h⟩ := jbd h
      refine j_callVv (own := RX3) (As := []) (rest := []) hx hb hml hown hts hK hA hP hD hS (jc_Page_empty l E q_trial q_book q_trial_bytes c_trial_size c_trial_shift c_trial_link c_trial_lastWordLength c_trial_lastWordVowels N hf45) gX3_isJoined_X4_empty rfl ⟨rfl, rfl⟩ 0 (by decide +kernel) rfl rfl 2 4 rfl rfl [2] [0, 1, 3, 4, 5, 6] [0, 1, 6, 2, 3, 4, 5] rfl rfl rfl rfl rfl rfl rfl hl.1 rfl rfl dX3_isJoined_45 (fun H locs hP hD hS => ?_)
      replace hP : va_P E.1 vwCl (jw_Join_isJoined E q_this q_book q_trial q_book_kinds q_book_strokeCounts q_book_strokes q_book_lengths q_book_letters q_trial_bytes q_arg3 n_arg3 c_word c_suffix c_book_size c_trial_size_45 c_trial_shift_45 c_trial_link_45 c_trial_lastWordLength c_trial_lastWordVowels a_arg3 a_book_lengths a_book_letters a_trial_bytes) H := hP
      replace hD : va_D A (jw_Join_isJoined E q_this q_book q_trial q_book_kinds q_book_strokeCounts q_book_strokes q_book_lengths q_book_letters q_trial_bytes q_arg3 n_arg3 c_word c_suffix c_book_size c_trial_size_45 c_trial_shift_45 c_trial_link_45 c_trial_lastWordLength c_trial_lastWordVowels a_arg3 a_book_lengths a_book_letters a_trial_bytes) := hD
      refine lv_aload_n hx hb dX3_isJoined_48 rfl (lv_at hl 1 rfl) ?_
      refine va_get (D := E.1) (ci := 3) (v := .ref q_trial) (C := RX3) (T := TX3) (N := 4) hx hb hts hin3 hown hK.1 hP 0 rfl rfl 1 (by decide) hk_20 (fun _ h9 => h9) rfl dX3_isJoined_49 ?_
      refine lv_iload_n hx hb dX3_isJoined_52 rfl (lv_at hl 2 rfl) ?_
      obtain ⟨⟨c_trial_size_53, c_trial_shift_53, c_trial_link_53, a_trial_bytes_53⟩, hf53, h⟩ := jbd h
      refine j_callVv (own := RX3) (As := [.int x1]) (rest := []) hx hb hml hown hts hK hA hP hD hS (jc_Page_writeText l E q_trial q_book q_trial_bytes q_book_kinds q_book_strokeCounts q_book_strokes q_book_lengths q_book_letters 33 c_trial_size_45 c_trial_shift_45 c_trial_link_45 c_trial_lastWordLength c_trial_lastWordVowels c_book_size a_book_lengths a_book_letters a_trial_bytes x1 N hf53) gX3_isJoined_X4_writeText rfl ⟨rfl, rfl⟩ 1 (by decide +kernel) rfl rfl 2 4 rfl rfl [2, 1, 4, 5, 6] [0, 3] [0, 3, 2, 1, 4, 5, 6] rfl rfl rfl rfl rfl rfl rfl hl.1 rfl rfl dX3_isJoined_53 (fun H locs hP hD hS => ?_)
      replace hP : va_P E.1 vwCl (jw_Join_isJoined E q_this q_book q_trial q_book_kinds q_book_strokeCounts q_book_strokes q_book_lengths q_book_letters q_trial_bytes q_arg3 n_arg3 c_word c_suffix c_book_size c_trial_size_53 c_trial_shift_53 c_trial_link_53 c_trial_lastWordLength c_trial_lastWordVowels a_arg3 a_book_lengths a_book_letters a_trial_bytes_53) H := hP
      replace hD : va_D A (jw_Join_isJoined E q_this q_book q_trial q_book_kinds q_book_strokeCounts q_book_strokes q_book_lengths q_book_letters q_trial_bytes q_arg3 n_arg3 c_word c_suffix c_book_size c_trial_size_53 c_trial_shift_53 c_trial_link_53 c_trial_lastWordLength c_trial_lastWordVowels a_arg3 a_book_lengths a_book_letters a_trial_bytes_53) := hD
      refine lv_aload_n hx hb dX3_isJoined_56 rfl (lv_at hl 1 rfl) ?_
      refine va_get (D := E.1) (ci := 3) (v := .ref q_trial) (C := RX3) (T := TX3) (N := 4) hx hb hts hin3 hown hK.1 hP 0 rfl rfl 1 (by decide) hk_20 (fun _ h9 => h9) rfl dX3_isJoined_57 ?_
      refine lv_iload_n hx hb dX3_isJoined_60 rfl (lv_at hl 3 rfl) ?_
      obtain ⟨⟨c_trial_size_61, c_trial_link_61, c_trial_lastWordLength_61, c_trial_lastWordVowels_61, a_trial_bytes_61⟩, hf61, h⟩ := jbd h
      refine j_callVv (own := RX3) (As := [.int x2]) (rest := []) hx hb hml hown hts hK hA hP hD hS (jc_Page_joinSuffix l E q_trial q_book q_trial_bytes q_book_kinds q_book_strokeCounts q_book_strokes q_book_lengths q_book_letters 33 c_trial_size_53 c_trial_shift_53 c_trial_link_53 c_trial_lastWordLength c_trial_lastWordVowels c_book_size a_book_lengths a_book_letters a_trial_bytes_53 x2 N hf61) gX3_isJoined_X4_joinSuffix rfl ⟨rfl, rfl⟩ 1 (by decide +kernel) rfl rfl 2 4 rfl rfl [2, 1, 4, 5, 6] [0, 3] [0, 3, 2, 1, 4, 5, 6] rfl rfl rfl rfl rfl rfl rfl hl.1 rfl rfl dX3_isJoined_61 (fun H locs hP hD hS => ?_)
      replace hP : va_P E.1 vwCl (jw_Join_isJoined E q_this q_book q_trial q_book_kinds q_book_strokeCounts q_book_strokes q_book_lengths q_book_letters q_trial_bytes q_arg3 n_arg3 c_word c_suffix c_book_size c_trial_size_61 c_trial_shift_53 c_trial_link_61 c_trial_lastWordLength_61 c_trial_lastWordVowels_61 a_arg3 a_book_lengths a_book_letters a_trial_bytes_61) H := hP
      replace hD : va_D A (jw_Join_isJoined E q_this q_book q_trial q_book_kinds q_book_strokeCounts q_book_strokes q_book_lengths q_book_letters q_trial_bytes q_arg3 n_arg3 c_word c_suffix c_book_size c_trial_size_61 c_trial_shift_53 c_trial_link_61 c_trial_lastWordLength_61 c_trial_lastWordVowels_61 a_arg3 a_book_lengths a_book_letters a_trial_bytes_61) := hD
      refine lv_aload_n hx hb dX3_isJoined_64 rfl (lv_at hl 1 rfl) ?_
      refine va_get (D := E.1) (ci := 3) (v := .ref q_trial) (C := RX3) (T := TX3) (N := 4) hx hb hts hin3 hown hK.1 hP 0 rfl rfl 1 (by decide) hk_20 (fun _ h9 => h9) rfl dX3_isJoined_65 ?_
      refine lv_aload_n hx hb dX3_isJoined_68 rfl (lv_at hl 4 rfl) ?_
      refine lv_iload hx hb dX3_isJoined_69 (lv_at hl 5 rfl) ?_
      refine lv_iload hx hb dX3_isJoined_71 (lv_at hl 6 rfl) ?_
      obtain ⟨r73, hf73, h⟩ := jbd h
      refine j_callVi (own := RX3) (As := [.ref q_arg3, .int x4, .int x5]) (rest := []) hx hb hml hown hts hK hA hP hD hS (jc_Page_isAt l E q_trial q_book q_trial_bytes q_arg3 n_arg3 33 c_trial_size_61 c_trial_shift_53 c_trial_link_61 c_trial_lastWordLength_61 c_trial_lastWordVowels_61 a_arg3 a_trial_bytes_61 x4 x5 N hf73) gX3_isJoined_X4_isAt rfl ⟨rfl, rfl⟩ 3 (by decide +kernel) rfl rfl 2 4 rfl rfl [2, 3, 6] [0, 1, 4, 5] [0, 1, 4, 5, 2, 3, 6] rfl rfl rfl rfl rfl rfl rfl hl.1 rfl rfl dX3_isJoined_73 (fun H locs hP hD hS => ?_)
      replace hP : va_P E.1 vwCl (jw_Join_isJoined E q_this q_book q_trial q_book_kinds q_book_strokeCounts q_book_strokes q_book_lengths q_book_letters q_trial_bytes q_arg3 n_arg3 c_word c_suffix c_book_size c_trial_size_61 c_trial_shift_53 c_trial_link_61 c_trial_lastWordLength_61 c_trial_lastWordVowels_61 a_arg3 a_book_lengths a_book_letters a_trial_bytes_61) H := hP
      replace hD : va_D A (jw_Join_isJoined E q_this q_book q_trial q_book_kinds q_book_strokeCounts q_book_strokes q_book_lengths q_book_letters q_trial_bytes q_arg3 n_arg3 c_word c_suffix c_book_size c_trial_size_61 c_trial_shift_53 c_trial_link_61 c_trial_lastWordLength_61 c_trial_lastWordVowels_61 a_arg3 a_book_lengths a_book_letters a_trial_bytes_61) := hD
      obtain ⟨hz76, h⟩ := jgb_e h
      exact j_iret (u := (r73, c_trial_size_61, c_trial_shift_53, c_trial_link_61, c_trial_lastWordLength_61, c_trial_lastWordVowels_61, a_trial_bytes_61)) (rv := (fun T => T.1)) (wv := (fun T => (jw_Join_isJoined E q_this q_book q_trial q_book_kinds q_book_strokeCounts q_book_strokes q_book_lengths q_book_letters q_trial_bytes q_arg3 n_arg3 c_word c_suffix c_book_size T.2.1 T.2.2.1 T.2.2.2.1 T.2.2.2.2.1 T.2.2.2.2.2.1 a_arg3 a_book_lengths a_book_letters T.2.2.2.2.2.2))) h hQ hx hb hr hz76 hlocks hS hP hD dX3_isJoined_76
    · replace h := jif_t hq36 h
      refine lv_iconst (v := 0) hx hb dX3_isJoined_39 (by decide) ?_
      exact j_iret (u := (0, c_trial_size, c_trial_shift, c_trial_link, c_trial_lastWordLength, c_trial_lastWordVowels, a_trial_bytes)) (rv := (fun T => T.1)) (wv := (fun T => (jw_Join_isJoined E q_this q_book q_trial q_book_kinds q_book_strokeCounts q_book_strokes q_book_lengths q_book_letters q_trial_bytes q_arg3 n_arg3 c_word c_suffix c_book_size T.2.1 T.2.2.1 T.2.2.2.1 T.2.2.2.2.1 T.2.2.2.2.2.1 a_arg3 a_book_lengths a_book_letters T.2.2.2.2.2.2))) h hQ hx hb hr jb_0 hlocks hS hP hD dX3_isJoined_40
abbrev jw_Join_solve (E : jE) (q_this q_book q_trial q_book_kinds q_book_strokeCounts q_book_strokes q_book_lengths q_book_letters q_trial_bytes q_arg1 : Nat) (n_arg1 : Nat) (c_word : Int32) (c_suffix : Int32) (c_book_size : Int32) (c_trial_size : Int32) (c_trial_shift : Int32) (c_trial_link : Int32) (c_trial_lastWordLength : Int32) (c_trial_lastWordVowels : Int32) (a_arg1 : (Nat → Int32)) (a_book_kinds : (Nat → Int32)) (a_book_lengths : (Nat → Int32)) (a_book_letters : (Nat → Int32)) (a_book_strokeCounts : (Nat → Int32)) (a_trial_bytes : (Nat → Int32)) : va_W := [(q_this, .inr (3, [.ref q_book, .ref q_trial, .int c_word, .int c_suffix])), (q_book, .inr (0, [.ref q_book_kinds, .ref q_book_strokeCounts, .ref q_book_strokes, .ref q_book_lengths, .ref q_book_letters, .int c_book_size])), (q_trial, .inr (4, [.ref q_book, .ref q_trial_bytes, .int c_trial_size, .int c_trial_shift, .int c_trial_link, .int c_trial_lastWordLength, .int c_trial_lastWordVowels])), (q_arg1, .inl (E.2.1, n_arg1, .inl a_arg1)), (q_book_kinds, .inl (E.2.2.1, 60, .inl a_book_kinds)), (q_book_lengths, .inl (E.2.2.1, 60, .inl a_book_lengths)), (q_book_letters, .inl (E.2.1, 960, .inl a_book_letters)), (q_book_strokeCounts, .inl (E.2.2.1, 60, .inl a_book_strokeCounts)), (q_trial_bytes, .inl (E.2.1, 33, .inl a_trial_bytes))]
def jr_Join_solve : Room := { frames := 4, cells := 0, slots := 0, locals := 98 }
set_option maxHeartbeats 4000000 in
set_option maxRecDepth 100000 in
theorem jc_Join_solve (l : Launch) (E : jE) (q_this q_book q_trial q_book_kinds q_book_strokeCounts q_book_strokes q_book_lengths q_book_letters q_trial_bytes q_arg1 : Nat) (n_arg1 : Nat) (c_word : Int32) (c_suffix : Int32) (c_book_size : Int32) (c_trial_size : Int32) (c_trial_shift : Int32) (c_trial_link : Int32) (c_trial_lastWordLength : Int32) (c_trial_lastWordVowels : Int32) (a_arg1 : (Nat → Int32)) (a_book_kinds : (Nat → Int32)) (a_book_lengths : (Nat → Int32)) (a_book_letters : (Nat → Int32)) (a_book_strokeCounts : (Nat → Int32)) (a_trial_bytes : (Nat → Int32)) (x2 : Int32) (x3 : Int32) (N : Nat) {T : Int32 × Int32 × Int32 × Int32 × Int32 × Int32 × Int32 × Int32 × (Nat → Int32)} (h : jf_Join_solve N x2 x3 n_arg1 c_book_size a_arg1 a_book_kinds a_book_lengths a_book_letters a_book_strokeCounts c_word c_suffix c_trial_size c_trial_shift c_trial_link c_trial_lastWordLength c_trial_lastWordVowels a_trial_bytes = some T) : jMi l yX3_solve wsX3_solve jr_Join_solve E [.ref q_this, .ref q_arg1, .int x2, .int x3] (jw_Join_solve E q_this q_book q_trial q_book_kinds q_book_strokeCounts q_book_strokes q_book_lengths q_book_letters q_trial_bytes q_arg1 n_arg1 c_word c_suffix c_book_size c_trial_size c_trial_shift c_trial_link c_trial_lastWordLength c_trial_lastWordVowels a_arg1 a_book_kinds a_book_lengths a_book_letters a_book_strokeCounts a_trial_bytes) (T.1) (jw_Join_solve E q_this q_book q_trial q_book_kinds q_book_strokeCounts q_book_strokes q_book_lengths q_book_letters q_trial_bytes q_arg1 n_arg1 T.2.1 T.2.2.1 c_book_size T.2.2.2.1 T.2.2.2.2.1 T.2.2.2.2.2.1 T.2.2.2.2.2.2.1 T.2.2.2.2.2.2.2.1 a_arg1 a_book_kinds a_book_lengths a_book_letters a_book_strokeCounts T.2.2.2.2.2.2.2.2) := by
  refine jMi.begin (cc := cX3_solve) (maxL := 9) (ret := (some .int)) (by decide) rfl (Nat.le_of_ble_eq_true rfl) ?_
  intro p e s m args below meth c A ls Q hQ hx hb hr hml hown hlocks hts hK hA hP hD hS hl
  replace hown : s.vm.findClass RX3 = some m.cls := hown
  replace hl : lv_has ls 9 [(0, .ref q_this), (1, .ref q_arg1), (2, .int x2), (3, .int x3)] := hl
  have hin3 : ∀ w ∈ u_ws RX3 TX3 4, w ∈ wsX3_solve := by decide +kernel
  have hk_9 := hts (.fieldLink RX3 9 "StenoRoom$Join" "book" "LStenoRoom$Book;") (by decide +kernel)
  have hk_24 := hts (.fieldLink RX3 24 "StenoRoom$Join" "word" "I") (by decide +kernel)
  have hk_28 := hts (.fieldLink RX3 28 "StenoRoom$Join" "suffix" "I") (by decide +kernel)
  have kb136 : ∀ (k7 : Int32 → Int32 → Int32 → Int32 → Int32 → Int32 → Int32 → Int32 → Int32 → (Nat → Int32) → Option (Int32 × Int32 × Int32 × Int32 × Int32 × Int32 × Int32 × Int32 × (Nat → Int32))) (hk7 : ∀ (x4 : Int32) (x5 : Int32) (c_word : Int32) (c_suffix : Int32) (c_trial_size : Int32) (c_trial_shift : Int32) (c_trial_link : Int32) (c_trial_lastWordLength : Int32) (c_trial_lastWordVowels : Int32) (a_trial_bytes : (Nat → Int32)) (H : Heap) (locs : List Loc) (ls : Array Slot), k7 x4 x5 c_word c_suffix c_trial_size c_trial_shift c_trial_link c_trial_lastWordLength c_trial_lastWordVowels a_trial_bytes = some T → va_P E.1 vwCl (jw_Join_solve E q_this q_book q_trial q_book_kinds q_book_strokeCounts q_book_strokes q_book_lengths q_book_letters q_trial_bytes q_arg1 n_arg1 c_word c_suffix c_book_size c_trial_size c_trial_shift c_trial_link c_trial_lastWordLength c_trial_lastWordVowels a_arg1 a_book_kinds a_book_lengths a_book_letters a_book_strokeCounts a_trial_bytes) H → va_D A (jw_Join_solve E q_this q_book q_trial q_book_kinds q_book_strokeCounts q_book_strokes q_book_lengths q_book_letters q_trial_bytes q_arg1 n_arg1 c_word c_suffix c_book_size c_trial_size c_trial_shift c_trial_link c_trial_lastWordLength c_trial_lastWordVowels a_arg1 a_book_kinds a_book_lengths a_book_letters a_book_strokeCounts a_trial_bytes) → va_S A s.heap H locs → lv_has ls 9 [(0, .ref q_this), (1, .ref q_arg1), (2, .int x2), (3, .int x3), (4, .int x4), (5, .int x5)] → W p l e jr_Join_solve s m args below meth c H locs 0 0 Q (F0 m 7 ls [])) (x4 : Int32) (x5 : Int32) (c_word : Int32) (c_suffix : Int32) (c_trial_size : Int32) (c_trial_shift : Int32) (c_trial_link : Int32) (c_trial_lastWordLength : Int32) (c_trial_lastWordVowels : Int32) (a_trial_bytes : (Nat → Int32)) (H : Heap) (locs : List Loc) (ls : Array Slot), jf_Join_solve_b136 k7 x4 x5 c_word c_suffix c_trial_size c_trial_shift c_trial_link c_trial_lastWordLength c_trial_lastWordVowels a_trial_bytes = some T → va_P E.1 vwCl (jw_Join_solve E q_this q_book q_trial q_book_kinds q_book_strokeCounts q_book_strokes q_book_lengths q_book_letters q_trial_bytes q_arg1 n_arg1 c_word c_suffix c_book_size c_trial_size c_trial_shift c_trial_link c_trial_lastWordLength c_trial_lastWordVowels a_arg1 a_book_kinds a_book_lengths a_book_letters a_book_strokeCounts a_trial_bytes) H → va_D A (jw_Join_solve E q_this q_book q_trial q_book_kinds q_book_strokeCounts q_book_strokes q_book_lengths q_book_letters q_trial_bytes q_arg1 n_arg1 c_word c_suffix c_book_size c_trial_size c_trial_shift c_trial_link c_trial_lastWordLength c_trial_lastWordVowels a_arg1 a_book_kinds a_book_lengths a_book_letters a_book_strokeCounts a_trial_bytes) → va_S A s.heap H locs → lv_has ls 9 [(0, .ref q_this), (1, .ref q_arg1), (2, .int x2), (3, .int x3), (4, .int x4), (5, .int x5)] → W p l e jr_Join_solve s m args below meth c H locs 0 0 Q (F0 m 136 ls []) := by
    intro k7 hk7 x4 x5 c_word c_suffix c_trial_size c_trial_shift c_trial_link c_trial_lastWordLength c_trial_lastWordVowels a_trial_bytes H locs ls h hP hD hS hl
    unfold jf_Join_solve_b136 at h
    refine lv_iinc (v := (x5 + 1)) (lv' := [(5, .int (x5 + 1)), (0, .ref q_this), (1, .ref q_arg1), (2, .int x2), (3, .int x3), (4, .int x4)]) hx hb dX3_solve_136 hl (k := 5) rfl rfl (by decide) rfl (fun ls hl => ?_)
    refine lv_goto (tgt := 7) hx hb dX3_solve_139 (by decide) ?_
    exact hk7 x4 (x5 + 1) c_word c_suffix c_trial_size c_trial_shift c_trial_link c_trial_lastWordLength c_trial_lastWordVowels a_trial_bytes _ _ _ h hP hD hS (lv_sub hl [1, 2, 3, 4, 5, 0] rfl)
  have kb130 : ∀ (k7 : Int32 → Int32 → Int32 → Int32 → Int32 → Int32 → Int32 → Int32 → Int32 → (Nat → Int32) → Option (Int32 × Int32 × Int32 × Int32 × Int32 × Int32 × Int32 × Int32 × (Nat → Int32))) (hk7 : ∀ (x4 : Int32) (x5 : Int32) (c_word : Int32) (c_suffix : Int32) (c_trial_size : Int32) (c_trial_shift : Int32) (c_trial_link : Int32) (c_trial_lastWordLength : Int32) (c_trial_lastWordVowels : Int32) (a_trial_bytes : (Nat → Int32)) (H : Heap) (locs : List Loc) (ls : Array Slot), k7 x4 x5 c_word c_suffix c_trial_size c_trial_shift c_trial_link c_trial_lastWordLength c_trial_lastWordVowels a_trial_bytes = some T → va_P E.1 vwCl (jw_Join_solve E q_this q_book q_trial q_book_kinds q_book_strokeCounts q_book_strokes q_book_lengths q_book_letters q_trial_bytes q_arg1 n_arg1 c_word c_suffix c_book_size c_trial_size c_trial_shift c_trial_link c_trial_lastWordLength c_trial_lastWordVowels a_arg1 a_book_kinds a_book_lengths a_book_letters a_book_strokeCounts a_trial_bytes) H → va_D A (jw_Join_solve E q_this q_book q_trial q_book_kinds q_book_strokeCounts q_book_strokes q_book_lengths q_book_letters q_trial_bytes q_arg1 n_arg1 c_word c_suffix c_book_size c_trial_size c_trial_shift c_trial_link c_trial_lastWordLength c_trial_lastWordVowels a_arg1 a_book_kinds a_book_lengths a_book_letters a_book_strokeCounts a_trial_bytes) → va_S A s.heap H locs → lv_has ls 9 [(0, .ref q_this), (1, .ref q_arg1), (2, .int x2), (3, .int x3), (4, .int x4), (5, .int x5)] → W p l e jr_Join_solve s m args below meth c H locs 0 0 Q (F0 m 7 ls [])) (k37 : Int32 → Int32 → Int32 → Int32 → Int32 → Int32 → Int32 → Int32 → Int32 → Int32 → (Nat → Int32) → Option (Int32 × Int32 × Int32 × Int32 × Int32 × Int32 × Int32 × Int32 × (Nat → Int32))) (hk37 : ∀ (x4 : Int32) (x5 : Int32) (x6 : Int32) (c_word : Int32) (c_suffix : Int32) (c_trial_size : Int32) (c_trial_shift : Int32) (c_trial_link : Int32) (c_trial_lastWordLength : Int32) (c_trial_lastWordVowels : Int32) (a_trial_bytes : (Nat → Int32)) (H : Heap) (locs : List Loc) (ls : Array Slot), k37 x4 x5 x6 c_word c_suffix c_trial_size c_trial_shift c_trial_link c_trial_lastWordLength c_trial_lastWordVowels a_trial_bytes = some T → va_P E.1 vwCl (jw_Join_solve E q_this q_book q_trial q_book_kinds q_book_strokeCounts q_book_strokes q_book_lengths q_book_letters q_trial_bytes q_arg1 n_arg1 c_word c_suffix c_book_size c_trial_size c_trial_shift c_trial_link c_trial_lastWordLength c_trial_lastWordVowels a_arg1 a_book_kinds a_book_lengths a_book_letters a_book_strokeCounts a_trial_bytes) H → va_D A (jw_Join_solve E q_this q_book q_trial q_book_kinds q_book_strokeCounts q_book_strokes q_book_lengths q_book_letters q_trial_bytes q_arg1 n_arg1 c_word c_suffix c_book_size c_trial_size c_trial_shift c_trial_link c_trial_lastWordLength c_trial_lastWordVowels a_arg1 a_book_kinds a_book_lengths a_book_letters a_book_strokeCounts a_trial_bytes) → va_S A s.heap H locs → lv_has ls 9 [(0, .ref q_this), (1, .ref q_arg1), (2, .int x2), (3, .int x3), (4, .int x4), (5, .int x5), (6, .int x6)] → W p l e jr_Join_solve s m args below meth c H locs 0 0 Q (F0 m 37 ls [])) (x4 : Int32) (x5 : Int32) (x6 : Int32) (c_word : Int32) (c_suffix : Int32) (c_trial_size : Int32) (c_trial_shift : Int32) (c_trial_link : Int32) (c_trial_lastWordLength : Int32) (c_trial_lastWordVowels : Int32) (a_trial_bytes : (Nat → Int32)) (H : Heap) (locs : List Loc) (ls : Array Slot), jf_Join_solve_b130 k7 k37 x4 x5 x6 c_word c_suffix c_trial_size c_trial_shift c_trial_link c_trial_lastWordLength c_trial_lastWordVowels a_trial_bytes = some T → va_P E.1 vwCl (jw_Join_solve E q_this q_book q_trial q_book_kinds q_book_strokeCounts q_book_strokes q_book_lengths q_book_letters q_trial_bytes q_arg1 n_arg1 c_word c_suffix c_book_size c_trial_size c_trial_shift c_trial_link c_trial_lastWordLength c_trial_lastWordVowels a_arg1 a_book_kinds a_book_lengths a_book_letters a_book_strokeCounts a_trial_bytes) H → va_D A (jw_Join_solve E q_this q_book q_trial q_book_kinds q_book_strokeCounts q_book_strokes q_book_lengths q_book_letters q_trial_bytes q_arg1 n_arg1 c_word c_suffix c_book_size c_trial_size c_trial_shift c_trial_link c_trial_lastWordLength c_trial_lastWordVowels a_arg1 a_book_kinds a_book_lengths a_book_letters a_book_strokeCounts a_trial_bytes) → va_S A s.heap H locs → lv_has ls 9 [(0, .ref q_this), (1, .ref q_arg1), (2, .int x2), (3, .int x3), (4, .int x4), (5, .int x5), (6, .int x6)] → W p l e jr_Join_solve s m args below meth c H locs 0 0 Q (F0 m 130 ls []) := by
    intro k7 hk7 k37 hk37 x4 x5 x6 c_word c_suffix c_trial_size c_trial_shift c_trial_link c_trial_lastWordLength c_trial_lastWordVowels a_trial_bytes H locs ls h hP hD hS hl
    unfold jf_Join_solve_b130 at h
    refine lv_iinc (v := (x6 + 1)) (lv' := [(6, .int (x6 + 1)), (0, .ref q_this), (1, .ref q_arg1), (2, .int x2), (3, .int x3), (4, .int x4), (5, .int x5)]) hx hb dX3_solve_130 hl (k := 6) rfl rfl (by decide) rfl (fun ls hl => ?_)
    refine lv_goto (tgt := 37) hx hb dX3_solve_133 (by decide) ?_
    exact hk37 x4 x5 (x6 + 1) c_word c_suffix c_trial_size c_trial_shift c_trial_link c_trial_lastWordLength c_trial_lastWordVowels a_trial_bytes _ _ _ h hP hD hS (lv_sub hl [1, 2, 3, 4, 5, 6, 0] rfl)
  have kb37 : ∀ (k7 : Int32 → Int32 → Int32 → Int32 → Int32 → Int32 → Int32 → Int32 → Int32 → (Nat → Int32) → Option (Int32 × Int32 × Int32 × Int32 × Int32 × Int32 × Int32 × Int32 × (Nat → Int32))) (hk7 : ∀ (x4 : Int32) (x5 : Int32) (c_word : Int32) (c_suffix : Int32) (c_trial_size : Int32) (c_trial_shift : Int32) (c_trial_link : Int32) (c_trial_lastWordLength : Int32) (c_trial_lastWordVowels : Int32) (a_trial_bytes : (Nat → Int32)) (H : Heap) (locs : List Loc) (ls : Array Slot), k7 x4 x5 c_word c_suffix c_trial_size c_trial_shift c_trial_link c_trial_lastWordLength c_trial_lastWordVowels a_trial_bytes = some T → va_P E.1 vwCl (jw_Join_solve E q_this q_book q_trial q_book_kinds q_book_strokeCounts q_book_strokes q_book_lengths q_book_letters q_trial_bytes q_arg1 n_arg1 c_word c_suffix c_book_size c_trial_size c_trial_shift c_trial_link c_trial_lastWordLength c_trial_lastWordVowels a_arg1 a_book_kinds a_book_lengths a_book_letters a_book_strokeCounts a_trial_bytes) H → va_D A (jw_Join_solve E q_this q_book q_trial q_book_kinds q_book_strokeCounts q_book_strokes q_book_lengths q_book_letters q_trial_bytes q_arg1 n_arg1 c_word c_suffix c_book_size c_trial_size c_trial_shift c_trial_link c_trial_lastWordLength c_trial_lastWordVowels a_arg1 a_book_kinds a_book_lengths a_book_letters a_book_strokeCounts a_trial_bytes) → va_S A s.heap H locs → lv_has ls 9 [(0, .ref q_this), (1, .ref q_arg1), (2, .int x2), (3, .int x3), (4, .int x4), (5, .int x5)] → W p l e jr_Join_solve s m args below meth c H locs 0 0 Q (F0 m 7 ls [])) (n : Nat) (x4 : Int32) (x5 : Int32) (x6 : Int32) (c_word : Int32) (c_suffix : Int32) (c_trial_size : Int32) (c_trial_shift : Int32) (c_trial_link : Int32) (c_trial_lastWordLength : Int32) (c_trial_lastWordVowels : Int32) (a_trial_bytes : (Nat → Int32)) (H : Heap) (locs : List Loc) (ls : Array Slot), jf_Join_solve_b37 N x2 x3 n_arg1 c_book_size a_arg1 a_book_kinds a_book_lengths a_book_letters a_book_strokeCounts k7 n x4 x5 x6 c_word c_suffix c_trial_size c_trial_shift c_trial_link c_trial_lastWordLength c_trial_lastWordVowels a_trial_bytes = some T → va_P E.1 vwCl (jw_Join_solve E q_this q_book q_trial q_book_kinds q_book_strokeCounts q_book_strokes q_book_lengths q_book_letters q_trial_bytes q_arg1 n_arg1 c_word c_suffix c_book_size c_trial_size c_trial_shift c_trial_link c_trial_lastWordLength c_trial_lastWordVowels a_arg1 a_book_kinds a_book_lengths a_book_letters a_book_strokeCounts a_trial_bytes) H → va_D A (jw_Join_solve E q_this q_book q_trial q_book_kinds q_book_strokeCounts q_book_strokes q_book_lengths q_book_letters q_trial_bytes q_arg1 n_arg1 c_word c_suffix c_book_size c_trial_size c_trial_shift c_trial_link c_trial_lastWordLength c_trial_lastWordVowels a_arg1 a_book_kinds a_book_lengths a_book_letters a_book_strokeCounts a_trial_bytes) → va_S A s.heap H locs → lv_has ls 9 [(0, .ref q_this), (1, .ref q_arg1), (2, .int x2), (3, .int x3), (4, .int x4), (5, .int x5), (6, .int x6)] → W p l e jr_Join_solve s m args below meth c H locs 0 0 Q (F0 m 37 ls []) := by
    intro k7 hk7 n
    induction n with
    | zero => intro x4 x5 x6 c_word c_suffix c_trial_size c_trial_shift c_trial_link c_trial_lastWordLength c_trial_lastWordVowels a_trial_bytes H locs ls h; exact j_none (α := Int32 × Int32 × Int32 × Int32 × Int32 × Int32 × Int32 × Int32 × (Nat → Int32)) h
    | succ n ih =>
      intro x4 x5 x6 c_word c_suffix c_trial_size c_trial_shift c_trial_link c_trial_lastWordLength c_trial_lastWordVowels a_trial_bytes H locs ls h hP hD hS hl
      rw [jf_Join_solve_b37] at h
      refine lv_iload hx hb dX3_solve_37 (lv_at hl 6 rfl) ?_
      refine lv_aload_n hx hb dX3_solve_39 rfl (lv_at hl 0 rfl) ?_
      refine va_get (D := E.1) (ci := 3) (v := .ref q_book) (C := RX3) (T := TX3) (N := 4) hx hb hts hin3 hown hK.1 hP 0 rfl rfl 0 (by decide) hk_9 (fun _ h9 => h9) rfl dX3_solve_40 ?_
      obtain ⟨r43, hf43, h⟩ := jbd h
      refine j_callVi (own := RX3) (As := []) (rest := [.int x6]) hx hb hml hown hts hK hA hP hD hS (jc_Book_size l E q_book q_book_kinds q_book_strokeCounts q_book_strokes q_book_lengths q_book_letters c_book_size N hf43) gX3_solve_X0_size rfl ⟨rfl, rfl⟩ 0 (by decide +kernel) rfl rfl 1 0 rfl rfl [1] [0, 2, 3, 4, 5, 6, 7, 8] [0, 8, 1, 2, 3, 4, 5, 6, 7] rfl rfl rfl rfl rfl rfl rfl hl.1 rfl rfl dX3_solve_43 (fun H locs hP hD hS => ?_)
      replace hP : va_P E.1 vwCl (jw_Join_solve E q_this q_book q_trial q_book_kinds q_book_strokeCounts q_book_strokes q_book_lengths q_book_letters q_trial_bytes q_arg1 n_arg1 c_word c_suffix c_book_size c_trial_size c_trial_shift c_trial_link c_trial_lastWordLength c_trial_lastWordVowels a_arg1 a_book_kinds a_book_lengths a_book_letters a_book_strokeCounts a_trial_bytes) H := hP
      replace hD : va_D A (jw_Join_solve E q_this q_book q_trial q_book_kinds q_book_strokeCounts q_book_strokes q_book_lengths q_book_letters q_trial_bytes q_arg1 n_arg1 c_word c_suffix c_book_size c_trial_size c_trial_shift c_trial_link c_trial_lastWordLength c_trial_lastWordVowels a_arg1 a_book_kinds a_book_lengths a_book_letters a_book_strokeCounts a_trial_bytes) := hD
      refine lv_icmp_ge (tgt := 136) hx hb dX3_solve_46 (by decide) (fun hq46 => ?_) (fun hq46 => ?_)
      · replace h := jif_t hq46 h
        exact kb136 k7 hk7  x4 x5 c_word c_suffix c_trial_size c_trial_shift c_trial_link c_trial_lastWordLength c_trial_lastWordVowels a_trial_bytes _ _ _ h hP hD hS (lv_sub hl [0, 1, 2, 3, 4, 5] rfl)
      · replace h := jif_f hq46 h
        refine lv_aload_n hx hb dX3_solve_49 rfl (lv_at hl 0 rfl) ?_
        refine va_get (D := E.1) (ci := 3) (v := .ref q_book) (C := RX3) (T := TX3) (N := 4) hx hb hts hin3 hown hK.1 hP 0 rfl rfl 0 (by decide) hk_9 (fun _ h9 => h9) rfl dX3_solve_50 ?_
        refine lv_iload hx hb dX3_solve_53 (lv_at hl 5 rfl) ?_
        obtain ⟨r55, hf55, h⟩ := jbd h
        refine j_callVi (own := RX3) (As := [.int x5]) (rest := []) hx hb hml hown hts hK hA hP hD hS (jc_Book_strokesOf l E q_book q_book_kinds q_book_strokeCounts q_book_strokes q_book_lengths q_book_letters c_book_size a_book_strokeCounts x5 N hf55) gX3_solve_X0_strokesOf rfl ⟨rfl, rfl⟩ 1 (by decide +kernel) rfl rfl 1 0 rfl rfl [1, 7] [0, 2, 3, 4, 5, 6, 8] [0, 7, 1, 2, 3, 4, 5, 8, 6] rfl rfl rfl rfl rfl rfl rfl hl.1 rfl rfl dX3_solve_55 (fun H locs hP hD hS => ?_)
        replace hP : va_P E.1 vwCl (jw_Join_solve E q_this q_book q_trial q_book_kinds q_book_strokeCounts q_book_strokes q_book_lengths q_book_letters q_trial_bytes q_arg1 n_arg1 c_word c_suffix c_book_size c_trial_size c_trial_shift c_trial_link c_trial_lastWordLength c_trial_lastWordVowels a_arg1 a_book_kinds a_book_lengths a_book_letters a_book_strokeCounts a_trial_bytes) H := hP
        replace hD : va_D A (jw_Join_solve E q_this q_book q_trial q_book_kinds q_book_strokeCounts q_book_strokes q_book_lengths q_book_letters q_trial_bytes q_arg1 n_arg1 c_word c_suffix c_book_size c_trial_size c_trial_shift c_trial_link c_trial_lastWordLength c_trial_lastWordVowels a_arg1 a_book_kinds a_book_lengths a_book_letters a_book_strokeCounts a_trial_bytes) := hD
        refine lv_aload_n hx hb dX3_solve_58 rfl (lv_at hl 0 rfl) ?_
        refine va_get (D := E.1) (ci := 3) (v := .ref q_book) (C := RX3) (T := TX3) (N := 4) hx hb hts hin3 hown hK.1 hP 0 rfl rfl 0 (by decide) hk_9 (fun _ h9 => h9) rfl dX3_solve_59 ?_
        refine lv_iload hx hb dX3_solve_62 (lv_at hl 6 rfl) ?_
        obtain ⟨r64, hf64, h⟩ := jbd h
        refine j_callVi (own := RX3) (As := [.int x6]) (rest := [.int r55]) hx hb hml hown hts hK hA hP hD hS (jc_Book_strokesOf l E q_book q_book_kinds q_book_strokeCounts q_book_strokes q_book_lengths q_book_letters c_book_size a_book_strokeCounts x6 N hf64) gX3_solve_X0_strokesOf rfl ⟨rfl, rfl⟩ 1 (by decide +kernel) rfl rfl 1 0 rfl rfl [1, 7] [0, 2, 3, 4, 5, 6, 8] [0, 7, 1, 2, 3, 4, 5, 8, 6] rfl rfl rfl rfl rfl rfl rfl hl.1 rfl rfl dX3_solve_64 (fun H locs hP hD hS => ?_)
        replace hP : va_P E.1 vwCl (jw_Join_solve E q_this q_book q_trial q_book_kinds q_book_strokeCounts q_book_strokes q_book_lengths q_book_letters q_trial_bytes q_arg1 n_arg1 c_word c_suffix c_book_size c_trial_size c_trial_shift c_trial_link c_trial_lastWordLength c_trial_lastWordVowels a_arg1 a_book_kinds a_book_lengths a_book_letters a_book_strokeCounts a_trial_bytes) H := hP
        replace hD : va_D A (jw_Join_solve E q_this q_book q_trial q_book_kinds q_book_strokeCounts q_book_strokes q_book_lengths q_book_letters q_trial_bytes q_arg1 n_arg1 c_word c_suffix c_book_size c_trial_size c_trial_shift c_trial_link c_trial_lastWordLength c_trial_lastWordVowels a_arg1 a_book_kinds a_book_lengths a_book_letters a_book_strokeCounts a_trial_bytes) := hD
        refine lv_iadd hx hb dX3_solve_67 ?_
        refine lv_istore (lv' := [(7, .int (r55 + r64)), (0, .ref q_this), (1, .ref q_arg1), (2, .int x2), (3, .int x3), (4, .int x4), (5, .int x5), (6, .int x6)]) hx hb dX3_solve_68 hl (by decide) rfl (fun ls hl => ?_)
        refine lv_iload hx hb dX3_solve_70 (lv_at hl 0 rfl) ?_
        refine lv_iconst (v := 2) hx hb dX3_solve_72 (by decide) ?_
        refine lv_iload hx hb dX3_solve_73 (lv_at hl 6 rfl) ?_
        obtain ⟨r75, hf75, h⟩ := jbd h
        refine j_callSi (own := RX3) (As := [.int (r55 + r64), .int 2, .int x5]) (rest := []) hx hb hml hown hts hK hA hP hD hS (jc_Chain_costOf l E (r55 + r64) 2 x5 N hf75) gX3_solve_X1_costOf rfl ⟨rfl, rfl⟩ 3 (by decide +kernel) rfl rfl [] [0, 1, 2, 3, 4, 5, 6, 7, 8] [0, 1, 2, 3, 4, 5, 6, 7, 8] rfl rfl rfl rfl rfl rfl rfl hl.1 rfl rfl dX3_solve_75 (fun H locs hP hD hS => ?_)
        replace hP : va_P E.1 vwCl (jw_Join_solve E q_this q_book q_trial q_book_kinds q_book_strokeCounts q_book_strokes q_book_lengths q_book_letters q_trial_bytes q_arg1 n_arg1 c_word c_suffix c_book_size c_trial_size c_trial_shift c_trial_link c_trial_lastWordLength c_trial_lastWordVowels a_arg1 a_book_kinds a_book_lengths a_book_letters a_book_strokeCounts a_trial_bytes) H := hP
        replace hD : va_D A (jw_Join_solve E q_this q_book q_trial q_book_kinds q_book_strokeCounts q_book_strokes q_book_lengths q_book_letters q_trial_bytes q_arg1 n_arg1 c_word c_suffix c_book_size c_trial_size c_trial_shift c_trial_link c_trial_lastWordLength c_trial_lastWordVowels a_arg1 a_book_kinds a_book_lengths a_book_letters a_book_strokeCounts a_trial_bytes) := hD
        refine lv_istore (lv' := [(8, .int r75), (7, .int (r55 + r64)), (0, .ref q_this), (1, .ref q_arg1), (2, .int x2), (3, .int x3), (4, .int x4), (5, .int x5), (6, .int x6)]) hx hb dX3_solve_78 hl (by decide) rfl (fun ls hl => ?_)
        refine lv_aload_n hx hb dX3_solve_80 rfl (lv_at hl 2 rfl) ?_
        refine va_get (D := E.1) (ci := 3) (v := .ref q_book) (C := RX3) (T := TX3) (N := 4) hx hb hts hin3 hown hK.1 hP 0 rfl rfl 0 (by decide) hk_9 (fun _ h9 => h9) rfl dX3_solve_81 ?_
        refine lv_iload hx hb dX3_solve_84 (lv_at hl 8 rfl) ?_
        obtain ⟨r86, hf86, h⟩ := jbd h
        refine j_callVi (own := RX3) (As := [.int x6]) (rest := []) hx hb hml hown hts hK hA hP hD hS (jc_Book_kindOf l E q_book q_book_kinds q_book_strokeCounts q_book_strokes q_book_lengths q_book_letters c_book_size a_book_kinds x6 N hf86) gX3_solve_X0_kindOf rfl ⟨rfl, rfl⟩ 1 (by decide +kernel) rfl rfl 1 0 rfl rfl [1, 4] [0, 2, 3, 5, 6, 7, 8] [0, 7, 1, 2, 8, 3, 4, 5, 6] rfl rfl rfl rfl rfl rfl rfl hl.1 rfl rfl dX3_solve_86 (fun H locs hP hD hS => ?_)
        replace hP : va_P E.1 vwCl (jw_Join_solve E q_this q_book q_trial q_book_kinds q_book_strokeCounts q_book_strokes q_book_lengths q_book_letters q_trial_bytes q_arg1 n_arg1 c_word c_suffix c_book_size c_trial_size c_trial_shift c_trial_link c_trial_lastWordLength c_trial_lastWordVowels a_arg1 a_book_kinds a_book_lengths a_book_letters a_book_strokeCounts a_trial_bytes) H := hP
        replace hD : va_D A (jw_Join_solve E q_this q_book q_trial q_book_kinds q_book_strokeCounts q_book_strokes q_book_lengths q_book_letters q_trial_bytes q_arg1 n_arg1 c_word c_suffix c_book_size c_trial_size c_trial_shift c_trial_link c_trial_lastWordLength c_trial_lastWordVowels a_arg1 a_book_kinds a_book_lengths a_book_letters a_book_strokeCounts a_trial_bytes) := hD
        refine lv_iconst (v := 2) hx hb dX3_solve_89 (by decide) ?_
        refine lv_icmp_ne (tgt := 130) hx hb dX3_solve_90 (by decide) (fun hq90 => ?_) (fun hq90 => ?_)
        · replace h := jif_f hq90 h
          exact kb130 k7 hk7 (jf_Join_solve_b37 N x2 x3 n_arg1 c_book_size a_arg1 a_book_kinds a_book_lengths a_book_letters a_book_strokeCounts k7 n) ih  x4 x5 x6 c_word c_suffix c_trial_size c_trial_shift c_trial_link c_trial_lastWordLength c_trial_lastWordVowels a_trial_bytes _ _ _ h hP hD hS (lv_sub hl [2, 3, 4, 5, 6, 7, 8] rfl)
        · replace h := jif_t hq90 h
          refine lv_iload hx hb dX3_solve_93 (lv_at hl 0 rfl) ?_
          refine lv_iload hx hb dX3_solve_95 (lv_at hl 6 rfl) ?_
          refine lv_icmp_ge (tgt := 130) hx hb dX3_solve_97 (by decide) (fun hq97 => ?_) (fun hq97 => ?_)
          · replace h := jif_t hq97 h
            exact kb130 k7 hk7 (jf_Join_solve_b37 N x2 x3 n_arg1 c_book_size a_arg1 a_book_kinds a_book_lengths a_book_letters a_book_strokeCounts k7 n) ih  x4 x5 x6 c_word c_suffix c_trial_size c_trial_shift c_trial_link c_trial_lastWordLength c_trial_lastWordVowels a_trial_bytes _ _ _ h hP hD hS (lv_sub hl [2, 3, 4, 5, 6, 7, 8] rfl)
          · replace h := jif_f hq97 h
            refine lv_aload_n hx hb dX3_solve_100 rfl (lv_at hl 2 rfl) ?_
            refine lv_iload hx hb dX3_solve_101 (lv_at hl 7 rfl) ?_
            refine lv_iload hx hb dX3_solve_103 (lv_at hl 8 rfl) ?_
            refine lv_aload_n hx hb dX3_solve_105 rfl (lv_at hl 3 rfl) ?_
            refine lv_iload_n hx hb dX3_solve_106 rfl (lv_at hl 4 rfl) ?_
            refine lv_iload_n hx hb dX3_solve_107 rfl (lv_at hl 5 rfl) ?_
            obtain ⟨⟨r108, c_trial_size_108, c_trial_shift_108, c_trial_link_108, c_trial_lastWordLength_108, c_trial_lastWordVowels_108, a_trial_bytes_108⟩, hf108, h⟩ := jbd h
            refine j_callVi (own := RX3) (As := [.int x5, .int x6, .ref q_arg1, .int x2, .int x3]) (rest := []) hx hb hml hown hts hK hA hP hD hS (jc_Join_isJoined l E q_this q_book q_trial q_book_kinds q_book_strokeCounts q_book_strokes q_book_lengths q_book_letters q_trial_bytes q_arg1 n_arg1 c_word c_suffix c_book_size c_trial_size c_trial_shift c_trial_link c_trial_lastWordLength c_trial_lastWordVowels a_arg1 a_book_lengths a_book_letters a_trial_bytes x5 x6 x2 x3 N hf108) gX3_solve_X3_isJoined rfl ⟨rfl, rfl⟩ 5 (by decide +kernel) rfl rfl 0 3 rfl rfl [0, 1, 2, 3, 5, 6, 8] [4, 7] [2, 3, 4, 5, 0, 6, 7, 1, 8] rfl rfl rfl rfl rfl rfl rfl hl.1 rfl rfl dX3_solve_108 (fun H locs hP hD hS => ?_)
            replace hP : va_P E.1 vwCl (jw_Join_solve E q_this q_book q_trial q_book_kinds q_book_strokeCounts q_book_strokes q_book_lengths q_book_letters q_trial_bytes q_arg1 n_arg1 c_word c_suffix c_book_size c_trial_size_108 c_trial_shift_108 c_trial_link_108 c_trial_lastWordLength_108 c_trial_lastWordVowels_108 a_arg1 a_book_kinds a_book_lengths a_book_letters a_book_strokeCounts a_trial_bytes_108) H := hP
            replace hD : va_D A (jw_Join_solve E q_this q_book q_trial q_book_kinds q_book_strokeCounts q_book_strokes q_book_lengths q_book_letters q_trial_bytes q_arg1 n_arg1 c_word c_suffix c_book_size c_trial_size_108 c_trial_shift_108 c_trial_link_108 c_trial_lastWordLength_108 c_trial_lastWordVowels_108 a_arg1 a_book_kinds a_book_lengths a_book_letters a_book_strokeCounts a_trial_bytes_108) := hD
            refine lv_if_eq (tgt := 130) hx hb dX3_solve_111 (by decide) (fun hq111 => ?_) (fun hq111 => ?_)
            · replace h := jif_t hq111 h
              exact kb130 k7 hk7 (jf_Join_solve_b37 N x2 x3 n_arg1 c_book_size a_arg1 a_book_kinds a_book_lengths a_book_letters a_book_strokeCounts k7 n) ih  x4 x5 x6 c_word c_suffix c_trial_size_108 c_trial_shift_108 c_trial_link_108 c_trial_lastWordLength_108 c_trial_lastWordVowels_108 a_trial_bytes_108 _ _ _ h hP hD hS (lv_sub hl [2, 3, 4, 5, 6, 7, 8] rfl)
            · replace h := jif_f hq111 h
              refine lv_iload hx hb dX3_solve_114 (lv_at hl 0 rfl) ?_
              refine lv_istore (lv' := [(4, .int r75), (8, .int r75), (7, .int (r55 + r64)), (0, .ref q_this), (1, .ref q_arg1), (2, .int x2), (3, .int x3), (5, .int x5), (6, .int x6)]) hx hb dX3_solve_116 hl (by decide) rfl (fun ls hl => ?_)
              refine lv_aload_n hx hb dX3_solve_118 rfl (lv_at hl 3 rfl) ?_
              refine lv_iload hx hb dX3_solve_119 (lv_at hl 7 rfl) ?_
              refine va_put (D := E.1) (ci := 3) (v := .int x5) (ty := .int) (C := RX3) (T := TX3) (N := 4) hx hb hts hin3 tyX3 tyX3_ok nmX3 hown hK.1 hP hD hS 0 rfl rfl 2 (by decide) hk_24 (fun _ h9 => h9) rfl (by decide +kernel) rfl rfl (Nat.le_of_ble_eq_true rfl) dX3_solve_121 (fun H locs hP hD hS => ?_)
              replace hP : va_P E.1 vwCl (jw_Join_solve E q_this q_book q_trial q_book_kinds q_book_strokeCounts q_book_strokes q_book_lengths q_book_letters q_trial_bytes q_arg1 n_arg1 x5 c_suffix c_book_size c_trial_size_108 c_trial_shift_108 c_trial_link_108 c_trial_lastWordLength_108 c_trial_lastWordVowels_108 a_arg1 a_book_kinds a_book_lengths a_book_letters a_book_strokeCounts a_trial_bytes_108) H := hP
              replace hD : va_D A (jw_Join_solve E q_this q_book q_trial q_book_kinds q_book_strokeCounts q_book_strokes q_book_lengths q_book_letters q_trial_bytes q_arg1 n_arg1 x5 c_suffix c_book_size c_trial_size_108 c_trial_shift_108 c_trial_link_108 c_trial_lastWordLength_108 c_trial_lastWordVowels_108 a_arg1 a_book_kinds a_book_lengths a_book_letters a_book_strokeCounts a_trial_bytes_108) := hD
              refine lv_aload_n hx hb dX3_solve_124 rfl (lv_at hl 3 rfl) ?_
              refine lv_iload hx hb dX3_solve_125 (lv_at hl 8 rfl) ?_
              refine va_put (D := E.1) (ci := 3) (v := .int x6) (ty := .int) (C := RX3) (T := TX3) (N := 4) hx hb hts hin3 tyX3 tyX3_ok nmX3 hown hK.1 hP hD hS 0 rfl rfl 3 (by decide) hk_28 (fun _ h9 => h9) rfl (by decide +kernel) rfl rfl (Nat.le_of_ble_eq_true rfl) dX3_solve_127 (fun H locs hP hD hS => ?_)
              replace hP : va_P E.1 vwCl (jw_Join_solve E q_this q_book q_trial q_book_kinds q_book_strokeCounts q_book_strokes q_book_lengths q_book_letters q_trial_bytes q_arg1 n_arg1 x5 x6 c_book_size c_trial_size_108 c_trial_shift_108 c_trial_link_108 c_trial_lastWordLength_108 c_trial_lastWordVowels_108 a_arg1 a_book_kinds a_book_lengths a_book_letters a_book_strokeCounts a_trial_bytes_108) H := hP
              replace hD : va_D A (jw_Join_solve E q_this q_book q_trial q_book_kinds q_book_strokeCounts q_book_strokes q_book_lengths q_book_letters q_trial_bytes q_arg1 n_arg1 x5 x6 c_book_size c_trial_size_108 c_trial_shift_108 c_trial_link_108 c_trial_lastWordLength_108 c_trial_lastWordVowels_108 a_arg1 a_book_kinds a_book_lengths a_book_letters a_book_strokeCounts a_trial_bytes_108) := hD
              exact kb130 k7 hk7 (jf_Join_solve_b37 N x2 x3 n_arg1 c_book_size a_arg1 a_book_kinds a_book_lengths a_book_letters a_book_strokeCounts k7 n) ih  r75 x5 x6 x5 x6 c_trial_size_108 c_trial_shift_108 c_trial_link_108 c_trial_lastWordLength_108 c_trial_lastWordVowels_108 a_trial_bytes_108 _ _ _ h hP hD hS (lv_sub hl [3, 4, 5, 6, 0, 7, 8] rfl)
  have kb7 : ∀ (n : Nat) (x4 : Int32) (x5 : Int32) (c_word : Int32) (c_suffix : Int32) (c_trial_size : Int32) (c_trial_shift : Int32) (c_trial_link : Int32) (c_trial_lastWordLength : Int32) (c_trial_lastWordVowels : Int32) (a_trial_bytes : (Nat → Int32)) (H : Heap) (locs : List Loc) (ls : Array Slot), jf_Join_solve_b7 N x2 x3 n_arg1 c_book_size a_arg1 a_book_kinds a_book_lengths a_book_letters a_book_strokeCounts n x4 x5 c_word c_suffix c_trial_size c_trial_shift c_trial_link c_trial_lastWordLength c_trial_lastWordVowels a_trial_bytes = some T → va_P E.1 vwCl (jw_Join_solve E q_this q_book q_trial q_book_kinds q_book_strokeCounts q_book_strokes q_book_lengths q_book_letters q_trial_bytes q_arg1 n_arg1 c_word c_suffix c_book_size c_trial_size c_trial_shift c_trial_link c_trial_lastWordLength c_trial_lastWordVowels a_arg1 a_book_kinds a_book_lengths a_book_letters a_book_strokeCounts a_trial_bytes) H → va_D A (jw_Join_solve E q_this q_book q_trial q_book_kinds q_book_strokeCounts q_book_strokes q_book_lengths q_book_letters q_trial_bytes q_arg1 n_arg1 c_word c_suffix c_book_size c_trial_size c_trial_shift c_trial_link c_trial_lastWordLength c_trial_lastWordVowels a_arg1 a_book_kinds a_book_lengths a_book_letters a_book_strokeCounts a_trial_bytes) → va_S A s.heap H locs → lv_has ls 9 [(0, .ref q_this), (1, .ref q_arg1), (2, .int x2), (3, .int x3), (4, .int x4), (5, .int x5)] → W p l e jr_Join_solve s m args below meth c H locs 0 0 Q (F0 m 7 ls []) := by
    intro n
    induction n with
    | zero => intro x4 x5 c_word c_suffix c_trial_size c_trial_shift c_trial_link c_trial_lastWordLength c_trial_lastWordVowels a_trial_bytes H locs ls h; exact j_none (α := Int32 × Int32 × Int32 × Int32 × Int32 × Int32 × Int32 × Int32 × (Nat → Int32)) h
    | succ n ih =>
      intro x4 x5 c_word c_suffix c_trial_size c_trial_shift c_trial_link c_trial_lastWordLength c_trial_lastWordVowels a_trial_bytes H locs ls h hP hD hS hl
      rw [jf_Join_solve_b7] at h
      refine lv_iload hx hb dX3_solve_7 (lv_at hl 5 rfl) ?_
      refine lv_aload_n hx hb dX3_solve_9 rfl (lv_at hl 0 rfl) ?_
      refine va_get (D := E.1) (ci := 3) (v := .ref q_book) (C := RX3) (T := TX3) (N := 4) hx hb hts hin3 hown hK.1 hP 0 rfl rfl 0 (by decide) hk_9 (fun _ h9 => h9) rfl dX3_solve_10 ?_
      obtain ⟨r13, hf13, h⟩ := jbd h
      refine j_callVi (own := RX3) (As := []) (rest := [.int x5]) hx hb hml hown hts hK hA hP hD hS (jc_Book_size l E q_book q_book_kinds q_book_strokeCounts q_book_strokes q_book_lengths q_book_letters c_book_size N hf13) gX3_solve_X0_size rfl ⟨rfl, rfl⟩ 0 (by decide +kernel) rfl rfl 1 0 rfl rfl [1] [0, 2, 3, 4, 5, 6, 7, 8] [0, 8, 1, 2, 3, 4, 5, 6, 7] rfl rfl rfl rfl rfl rfl rfl hl.1 rfl rfl dX3_solve_13 (fun H locs hP hD hS => ?_)
      replace hP : va_P E.1 vwCl (jw_Join_solve E q_this q_book q_trial q_book_kinds q_book_strokeCounts q_book_strokes q_book_lengths q_book_letters q_trial_bytes q_arg1 n_arg1 c_word c_suffix c_book_size c_trial_size c_trial_shift c_trial_link c_trial_lastWordLength c_trial_lastWordVowels a_arg1 a_book_kinds a_book_lengths a_book_letters a_book_strokeCounts a_trial_bytes) H := hP
      replace hD : va_D A (jw_Join_solve E q_this q_book q_trial q_book_kinds q_book_strokeCounts q_book_strokes q_book_lengths q_book_letters q_trial_bytes q_arg1 n_arg1 c_word c_suffix c_book_size c_trial_size c_trial_shift c_trial_link c_trial_lastWordLength c_trial_lastWordVowels a_arg1 a_book_kinds a_book_lengths a_book_letters a_book_strokeCounts a_trial_bytes) := hD
      refine lv_icmp_ge (tgt := 142) hx hb dX3_solve_16 (by decide) (fun hq16 => ?_) (fun hq16 => ?_)
      · replace h := jif_t hq16 h
        refine lv_iload hx hb dX3_solve_142 (lv_at hl 4 rfl) ?_
        exact j_iret (u := (x4, c_word, c_suffix, c_trial_size, c_trial_shift, c_trial_link, c_trial_lastWordLength, c_trial_lastWordVowels, a_trial_bytes)) (rv := (fun T => T.1)) (wv := (fun T => (jw_Join_solve E q_this q_book q_trial q_book_kinds q_book_strokeCounts q_book_strokes q_book_lengths q_book_letters q_trial_bytes q_arg1 n_arg1 T.2.1 T.2.2.1 c_book_size T.2.2.2.1 T.2.2.2.2.1 T.2.2.2.2.2.1 T.2.2.2.2.2.2.1 T.2.2.2.2.2.2.2.1 a_arg1 a_book_kinds a_book_lengths a_book_letters a_book_strokeCounts T.2.2.2.2.2.2.2.2))) h hQ hx hb hr rfl hlocks hS hP hD dX3_solve_144
      · replace h := jif_f hq16 h
        refine lv_aload_n hx hb dX3_solve_19 rfl (lv_at hl 0 rfl) ?_
        refine lv_iload hx hb dX3_solve_20 (lv_at hl 5 rfl) ?_
        refine lv_aload_n hx hb dX3_solve_22 rfl (lv_at hl 1 rfl) ?_
        refine lv_iload_n hx hb dX3_solve_23 rfl (lv_at hl 2 rfl) ?_
        refine lv_iload_n hx hb dX3_solve_24 rfl (lv_at hl 3 rfl) ?_
        obtain ⟨r25, hf25, h⟩ := jbd h
        refine j_callVi (own := RX3) (As := [.int x5, .ref q_arg1, .int x2, .int x3]) (rest := []) hx hb hml hown hts hK hA hP hD hS (jc_Join_mayBegin l E q_this q_book q_trial q_book_kinds q_book_strokeCounts q_book_strokes q_book_lengths q_book_letters q_arg1 n_arg1 c_word c_suffix c_book_size a_arg1 a_book_kinds a_book_lengths a_book_letters x5 x2 x3 N hf25) gX3_solve_X3_mayBegin rfl ⟨rfl, rfl⟩ 4 (by decide +kernel) rfl rfl 0 3 rfl rfl [0, 1, 3, 4, 5, 6] [2, 7, 8] [3, 4, 0, 5, 6, 7, 8, 1, 2] rfl rfl rfl rfl rfl rfl rfl hl.1 rfl rfl dX3_solve_25 (fun H locs hP hD hS => ?_)
        replace hP : va_P E.1 vwCl (jw_Join_solve E q_this q_book q_trial q_book_kinds q_book_strokeCounts q_book_strokes q_book_lengths q_book_letters q_trial_bytes q_arg1 n_arg1 c_word c_suffix c_book_size c_trial_size c_trial_shift c_trial_link c_trial_lastWordLength c_trial_lastWordVowels a_arg1 a_book_kinds a_book_lengths a_book_letters a_book_strokeCounts a_trial_bytes) H := hP
        replace hD : va_D A (jw_Join_solve E q_this q_book q_trial q_book_kinds q_book_strokeCounts q_book_strokes q_book_lengths q_book_letters q_trial_bytes q_arg1 n_arg1 c_word c_suffix c_book_size c_trial_size c_trial_shift c_trial_link c_trial_lastWordLength c_trial_lastWordVowels a_arg1 a_book_kinds a_book_lengths a_book_letters a_book_strokeCounts a_trial_bytes) := hD
        refine lv_if_ne (tgt := 34) hx hb dX3_solve_28 (by decide) (fun hq28 => ?_) (fun hq28 => ?_)
        · replace h := jif_f hq28 h
          refine lv_iconst (v := 0) hx hb dX3_solve_34 (by decide) ?_
          refine lv_istore (lv' := [(6, .int 0), (0, .ref q_this), (1, .ref q_arg1), (2, .int x2), (3, .int x3), (4, .int x4), (5, .int x5)]) hx hb dX3_solve_35 hl (by decide) rfl (fun ls hl => ?_)
          exact kb37 (jf_Join_solve_b7 N x2 x3 n_arg1 c_book_size a_arg1 a_book_kinds a_book_lengths a_book_letters a_book_strokeCounts n) ih N x4 x5 0 c_word c_suffix c_trial_size c_trial_shift c_trial_link c_trial_lastWordLength c_trial_lastWordVowels a_trial_bytes _ _ _ h hP hD hS (lv_sub hl [1, 2, 3, 4, 5, 6, 0] rfl)
        · replace h := jif_t hq28 h
          refine lv_goto (tgt := 136) hx hb dX3_solve_31 (by decide) ?_
          exact kb136 (jf_Join_solve_b7 N x2 x3 n_arg1 c_book_size a_arg1 a_book_kinds a_book_lengths a_book_letters a_book_strokeCounts n) ih  x4 x5 c_word c_suffix c_trial_size c_trial_shift c_trial_link c_trial_lastWordLength c_trial_lastWordVowels a_trial_bytes _ _ _ h hP hD hS (lv_sub hl [0, 1, 2, 3, 4, 5] rfl)
  unfold jf_Join_solve at h
  refine lv_ldc (v := 2147483647) hx hb hown (hts (.constant RX3 31 2147483647) (by decide +kernel)) dX3_solve_0 ?_
  refine lv_istore (lv' := [(4, .int 2147483647), (0, .ref q_this), (1, .ref q_arg1), (2, .int x2), (3, .int x3)]) hx hb dX3_solve_2 hl (by decide) rfl (fun ls hl => ?_)
  refine lv_iconst (v := 0) hx hb dX3_solve_4 (by decide) ?_
  refine lv_istore (lv' := [(5, .int 0), (4, .int 2147483647), (0, .ref q_this), (1, .ref q_arg1), (2, .int x2), (3, .int x3)]) hx hb dX3_solve_5 hl (by decide) rfl (fun ls hl => ?_)
  exact kb7  N 2147483647 0 c_word c_suffix c_trial_size c_trial_shift c_trial_link c_trial_lastWordLength c_trial_lastWordVowels a_trial_bytes _ _ _ h hP hD hS (lv_sub hl [2, 3, 4, 5, 1, 0] rfl)
abbrev jw_Chain_pickAt (E : jE) (q_this q_book q_costs q_picks : Nat) (c_innerKind : Int32) (c_lastKind : Int32) (a_picks : (Nat → Int32)) : va_W := [(q_this, .inr (1, [.ref q_book, .int c_innerKind, .int c_lastKind, .ref q_costs, .ref q_picks])), (q_picks, .inl (E.2.2.1, 60, .inl a_picks))]
def jr_Chain_pickAt : Room := { frames := 0, cells := 0, slots := 0, locals := 0 }
set_option maxHeartbeats 4000000 in
set_option maxRecDepth 100000 in
theorem jc_Chain_pickAt (l : Launch) (E : jE) (q_this q_book q_costs q_picks : Nat) (c_innerKind : Int32) (c_lastKind : Int32) (a_picks : (Nat → Int32)) (x1 : Int32) (N : Nat) {T : Int32} (h : jf_Chain_pickAt x1 a_picks = some T) : jMi l yX1_pickAt wsX1_pickAt jr_Chain_pickAt E [.ref q_this, .int x1] (jw_Chain_pickAt E q_this q_book q_costs q_picks c_innerKind c_lastKind a_picks) (T) (jw_Chain_pickAt E q_this q_book q_costs q_picks c_innerKind c_lastKind a_picks) := by
  refine jMi.begin (cc := cX1_pickAt) (maxL := 2) (ret := (some .int)) (by decide) rfl (Nat.le_of_ble_eq_true rfl) ?_
  intro p e s m args below meth c A ls Q hQ hx hb hr hml hown hlocks hts hK hA hP hD hS hl
  replace hown : s.vm.findClass RX1 = some m.cls := hown
  replace hl : lv_has ls 2 [(0, .ref q_this), (1, .int x1)] := hl
  have hin1 : ∀ w ∈ u_ws RX1 TX1 5, w ∈ wsX1_pickAt := by decide +kernel
  have hk_15 := hts (.fieldLink RX1 15 "StenoRoom$Chain" "picks" "[I") (by decide +kernel)
  unfold jf_Chain_pickAt at h
  refine lv_iload_n hx hb dX1_pickAt_0 rfl (lv_at hl 1 rfl) ?_
  refine lv_if_lt (tgt := 19) hx hb dX1_pickAt_1 (by decide) (fun hq1 => ?_) (fun hq1 => ?_)
  · replace h := jif_t hq1 h
    refine lv_iconst (v := (-1)) hx hb dX1_pickAt_19 (by decide) ?_
    exact j_iret (u := (-1)) (rv := (fun T => T)) (wv := (fun _ => (jw_Chain_pickAt E q_this q_book q_costs q_picks c_innerKind c_lastKind a_picks))) h hQ hx hb hr rfl hlocks hS hP hD dX1_pickAt_20
  · replace h := jif_f hq1 h
    refine lv_iload_n hx hb dX1_pickAt_4 rfl (lv_at hl 1 rfl) ?_
    refine lv_bipush (v := 60) hx hb dX1_pickAt_5 (by decide) ?_
    refine lv_icmp_ge (tgt := 19) hx hb dX1_pickAt_7 (by decide) (fun hq7 => ?_) (fun hq7 => ?_)
    · replace h := jif_t hq7 h
      refine lv_iconst (v := (-1)) hx hb dX1_pickAt_19 (by decide) ?_
      exact j_iret (u := (-1)) (rv := (fun T => T)) (wv := (fun _ => (jw_Chain_pickAt E q_this q_book q_costs q_picks c_innerKind c_lastKind a_picks))) h hQ hx hb hr rfl hlocks hS hP hD dX1_pickAt_20
    · replace h := jif_f hq7 h
      refine lv_aload_n hx hb dX1_pickAt_10 rfl (lv_at hl 0 rfl) ?_
      refine va_get (D := E.1) (ci := 1) (v := .ref q_picks) (C := RX1) (T := TX1) (N := 5) hx hb hts hin1 hown hK.1 hP 0 rfl rfl 4 (by decide) hk_15 (fun _ h9 => h9) rfl dX1_pickAt_11 ?_
      refine lv_iload_n hx hb dX1_pickAt_14 rfl (lv_at hl 1 rfl) ?_
      obtain ⟨g15, h⟩ := jga_e h
      refine va_iald hx hb hK.1 hP 1 1 rfl rfl g15 dX1_pickAt_15 ?_
      refine lv_goto (tgt := 20) hx hb dX1_pickAt_16 (by decide) ?_
      exact j_iret (u := (a_picks x1.toNatClampNeg)) (rv := (fun T => T)) (wv := (fun _ => (jw_Chain_pickAt E q_this q_book q_costs q_picks c_innerKind c_lastKind a_picks))) h hQ hx hb hr rfl hlocks hS hP hD dX1_pickAt_20
abbrev jw_Planner_draftEntry (E : jE) (q_this q_book q_prefixed q_glued q_joined q_trial q_words q_draft q_latest : Nat) (c_length : Int32) (c_drafted : Int32) (c_latestEntries : Int32) (c_latestStrokes : Int32) (c_latestClear : Int32) (a_draft : (Nat → Int32)) : va_W := [(q_this, .inr (5, [.ref q_book, .ref q_prefixed, .ref q_glued, .ref q_joined, .ref q_trial, .ref q_words, .int c_length, .ref q_draft, .int c_drafted, .ref q_latest, .int c_latestEntries, .int c_latestStrokes, .int c_latestClear])), (q_draft, .inl (E.2.2.1, 60, .inl a_draft))]
def jr_Planner_draftEntry : Room := { frames := 0, cells := 0, slots := 0, locals := 0 }
set_option maxHeartbeats 4000000 in
set_option maxRecDepth 100000 in
theorem jc_Planner_draftEntry (l : Launch) (E : jE) (q_this q_book q_prefixed q_glued q_joined q_trial q_words q_draft q_latest : Nat) (c_length : Int32) (c_drafted : Int32) (c_latestEntries : Int32) (c_latestStrokes : Int32) (c_latestClear : Int32) (a_draft : (Nat → Int32)) (x1 : Int32) (N : Nat) {T : Int32 × (Nat → Int32)} (h : jf_Planner_draftEntry x1 c_drafted a_draft = some T) : jMv l yX5_draftEntry wsX5_draftEntry jr_Planner_draftEntry E [.ref q_this, .int x1] (jw_Planner_draftEntry E q_this q_book q_prefixed q_glued q_joined q_trial q_words q_draft q_latest c_length c_drafted c_latestEntries c_latestStrokes c_latestClear a_draft) (jw_Planner_draftEntry E q_this q_book q_prefixed q_glued q_joined q_trial q_words q_draft q_latest c_length T.1 c_latestEntries c_latestStrokes c_latestClear T.2) := by
  refine jMv.begin (cc := cX5_draftEntry) (maxL := 2) (ret := none) (by decide) rfl (Nat.le_of_ble_eq_true rfl) ?_
  intro p e s m args below meth c A ls Q hQ hx hb hr hml hown hlocks hts hK hA hP hD hS hl
  replace hown : s.vm.findClass RX5 = some m.cls := hown
  replace hl : lv_has ls 2 [(0, .ref q_this), (1, .int x1)] := hl
  have hin5 : ∀ w ∈ u_ws RX5 TX5 13, w ∈ wsX5_draftEntry := by decide +kernel
  have hk_15 := hts (.fieldLink RX5 15 "StenoRoom$Planner" "draft" "[I") (by decide +kernel)
  have hk_77 := hts (.fieldLink RX5 77 "StenoRoom$Planner" "drafted" "I") (by decide +kernel)
  unfold jf_Planner_draftEntry at h
  refine lv_aload_n hx hb dX5_draftEntry_0 rfl (lv_at hl 0 rfl) ?_
  refine va_get (D := E.1) (ci := 5) (v := .int c_drafted) (C := RX5) (T := TX5) (N := 13) hx hb hts hin5 hown hK.1 hP 0 rfl rfl 8 (by decide) hk_77 (fun _ h9 => h9) rfl dX5_draftEntry_1 ?_
  refine lv_bipush (v := 60) hx hb dX5_draftEntry_4 (by decide) ?_
  refine lv_icmp_ge (tgt := 29) hx hb dX5_draftEntry_6 (by decide) (fun hq6 => ?_) (fun hq6 => ?_)
  · replace h := jif_t hq6 h
    exact j_vret (u := (c_drafted, a_draft)) (wv := (fun T => (jw_Planner_draftEntry E q_this q_book q_prefixed q_glued q_joined q_trial q_words q_draft q_latest c_length T.1 c_latestEntries c_latestStrokes c_latestClear T.2))) h hQ hx hb hr hlocks hS hP hD dX5_draftEntry_29
  · replace h := jif_f hq6 h
    refine lv_aload_n hx hb dX5_draftEntry_9 rfl (lv_at hl 0 rfl) ?_
    refine va_get (D := E.1) (ci := 5) (v := .ref q_draft) (C := RX5) (T := TX5) (N := 13) hx hb hts hin5 hown hK.1 hP 0 rfl rfl 7 (by decide) hk_15 (fun _ h9 => h9) rfl dX5_draftEntry_10 ?_
    refine lv_aload_n hx hb dX5_draftEntry_13 rfl (lv_at hl 0 rfl) ?_
    refine va_get (D := E.1) (ci := 5) (v := .int c_drafted) (C := RX5) (T := TX5) (N := 13) hx hb hts hin5 hown hK.1 hP 0 rfl rfl 8 (by decide) hk_77 (fun _ h9 => h9) rfl dX5_draftEntry_14 ?_
    refine lv_iload_n hx hb dX5_draftEntry_17 rfl (lv_at hl 1 rfl) ?_
    obtain ⟨g18, h⟩ := jga_e h
    refine va_iast hx hb hK.1 hP hD hS 1 1 rfl rfl g18 dX5_draftEntry_18 (fun H locs hP hD hS => ?_)
    replace hP : va_P E.1 vwCl (jw_Planner_draftEntry E q_this q_book q_prefixed q_glued q_joined q_trial q_words q_draft q_latest c_length c_drafted c_latestEntries c_latestStrokes c_latestClear (upd a_draft c_drafted.toNatClampNeg x1)) H := hP
    replace hD : va_D A (jw_Planner_draftEntry E q_this q_book q_prefixed q_glued q_joined q_trial q_words q_draft q_latest c_length c_drafted c_latestEntries c_latestStrokes c_latestClear (upd a_draft c_drafted.toNatClampNeg x1)) := hD
    refine lv_aload_n hx hb dX5_draftEntry_19 rfl (lv_at hl 0 rfl) ?_
    refine lv_dup hx hb dX5_draftEntry_20 rfl ?_
    refine va_get (D := E.1) (ci := 5) (v := .int c_drafted) (C := RX5) (T := TX5) (N := 13) hx hb hts hin5 hown hK.1 hP 0 rfl rfl 8 (by decide) hk_77 (fun _ h9 => h9) rfl dX5_draftEntry_21 ?_
    refine lv_iconst (v := 1) hx hb dX5_draftEntry_24 (by decide) ?_
    refine lv_iadd hx hb dX5_draftEntry_25 ?_
    refine va_put (D := E.1) (ci := 5) (v := .int (c_drafted + 1)) (ty := .int) (C := RX5) (T := TX5) (N := 13) hx hb hts hin5 tyX5 tyX5_ok nmX5 hown hK.1 hP hD hS 0 rfl rfl 8 (by decide) hk_77 (fun _ h9 => h9) rfl (by decide +kernel) rfl rfl (Nat.le_of_ble_eq_true rfl) dX5_draftEntry_26 (fun H locs hP hD hS => ?_)
    replace hP : va_P E.1 vwCl (jw_Planner_draftEntry E q_this q_book q_prefixed q_glued q_joined q_trial q_words q_draft q_latest c_length (c_drafted + 1) c_latestEntries c_latestStrokes c_latestClear (upd a_draft c_drafted.toNatClampNeg x1)) H := hP
    replace hD : va_D A (jw_Planner_draftEntry E q_this q_book q_prefixed q_glued q_joined q_trial q_words q_draft q_latest c_length (c_drafted + 1) c_latestEntries c_latestStrokes c_latestClear (upd a_draft c_drafted.toNatClampNeg x1)) := hD
    exact j_vret (u := ((c_drafted + 1), (upd a_draft c_drafted.toNatClampNeg x1))) (wv := (fun T => (jw_Planner_draftEntry E q_this q_book q_prefixed q_glued q_joined q_trial q_words q_draft q_latest c_length T.1 c_latestEntries c_latestStrokes c_latestClear T.2))) h hQ hx hb hr hlocks hS hP hD dX5_draftEntry_29
abbrev jw_Planner_draftChain_glued (E : jE) (q_this q_book q_prefixed q_glued q_joined q_trial q_words q_draft q_latest q_book_kinds q_book_strokeCounts q_book_strokes q_book_lengths q_book_letters q_glued_costs q_glued_picks : Nat) (c_length : Int32) (c_drafted : Int32) (c_latestEntries : Int32) (c_latestStrokes : Int32) (c_latestClear : Int32) (c_book_size : Int32) (c_glued_innerKind : Int32) (c_glued_lastKind : Int32) (a_book_lengths : (Nat → Int32)) (a_draft : (Nat → Int32)) (a_glued_picks : (Nat → Int32)) : va_W := [(q_this, .inr (5, [.ref q_book, .ref q_prefixed, .ref q_glued, .ref q_joined, .ref q_trial, .ref q_words, .int c_length, .ref q_draft, .int c_drafted, .ref q_latest, .int c_latestEntries, .int c_latestStrokes, .int c_latestClear])), (q_book, .inr (0, [.ref q_book_kinds, .ref q_book_strokeCounts, .ref q_book_strokes, .ref q_book_lengths, .ref q_book_letters, .int c_book_size])), (q_glued, .inr (1, [.ref q_book, .int c_glued_innerKind, .int c_glued_lastKind, .ref q_glued_costs, .ref q_glued_picks])), (q_book_lengths, .inl (E.2.2.1, 60, .inl a_book_lengths)), (q_draft, .inl (E.2.2.1, 60, .inl a_draft)), (q_glued_picks, .inl (E.2.2.1, 60, .inl a_glued_picks))]
def jr_Planner_draftChain_glued : Room := { frames := 1, cells := 0, slots := 0, locals := 21 }
set_option maxHeartbeats 4000000 in
set_option maxRecDepth 100000 in
theorem jc_Planner_draftChain_glued (l : Launch) (E : jE) (q_this q_book q_prefixed q_glued q_joined q_trial q_words q_draft q_latest q_book_kinds q_book_strokeCounts q_book_strokes q_book_lengths q_book_letters q_glued_costs q_glued_picks : Nat) (c_length : Int32) (c_drafted : Int32) (c_latestEntries : Int32) (c_latestStrokes : Int32) (c_latestClear : Int32) (c_book_size : Int32) (c_glued_innerKind : Int32) (c_glued_lastKind : Int32) (a_book_lengths : (Nat → Int32)) (a_draft : (Nat → Int32)) (a_glued_picks : (Nat → Int32)) (x2 : Int32) (x3 : Int32) (N : Nat) {T : Int32 × (Nat → Int32)} (h : jf_Planner_draftChain_glued N x2 x3 c_book_size a_book_lengths a_glued_picks c_drafted a_draft = some T) : jMv l yX5_draftChain wsX5_draftChain jr_Planner_draftChain_glued E [.ref q_this, .ref q_glued, .int x2, .int x3] (jw_Planner_draftChain_glued E q_this q_book q_prefixed q_glued q_joined q_trial q_words q_draft q_latest q_book_kinds q_book_strokeCounts q_book_strokes q_book_lengths q_book_letters q_glued_costs q_glued_picks c_length c_drafted c_latestEntries c_latestStrokes c_latestClear c_book_size c_glued_innerKind c_glued_lastKind a_book_lengths a_draft a_glued_picks) (jw_Planner_draftChain_glued E q_this q_book q_prefixed q_glued q_joined q_trial q_words q_draft q_latest q_book_kinds q_book_strokeCounts q_book_strokes q_book_lengths q_book_letters q_glued_costs q_glued_picks c_length T.1 c_latestEntries c_latestStrokes c_latestClear c_book_size c_glued_innerKind c_glued_lastKind a_book_lengths T.2 a_glued_picks) := by
  refine jMv.begin (cc := cX5_draftChain) (maxL := 6) (ret := none) (by decide) rfl (Nat.le_of_ble_eq_true rfl) ?_
  intro p e s m args below meth c A ls Q hQ hx hb hr hml hown hlocks hts hK hA hP hD hS hl
  replace hown : s.vm.findClass RX5 = some m.cls := hown
  replace hl : lv_has ls 6 [(0, .ref q_this), (1, .ref q_glued), (2, .int x2), (3, .int x3)] := hl
  have hin5 : ∀ w ∈ u_ws RX5 TX5 13, w ∈ wsX5_draftChain := by decide +kernel
  have hk_26 := hts (.fieldLink RX5 26 "StenoRoom$Planner" "book" "LStenoRoom$Book;") (by decide +kernel)
  have kb47 : ∀ (k6 : Int32 → Int32 → Int32 → (Nat → Int32) → Option (Int32 × (Nat → Int32))) (hk6 : ∀ (x4 : Int32) (x5 : Int32) (c_drafted : Int32) (a_draft : (Nat → Int32)) (H : Heap) (locs : List Loc) (ls : Array Slot), k6 x4 x5 c_drafted a_draft = some T → va_P E.1 vwCl (jw_Planner_draftChain_glued E q_this q_book q_prefixed q_glued q_joined q_trial q_words q_draft q_latest q_book_kinds q_book_strokeCounts q_book_strokes q_book_lengths q_book_letters q_glued_costs q_glued_picks c_length c_drafted c_latestEntries c_latestStrokes c_latestClear c_book_size c_glued_innerKind c_glued_lastKind a_book_lengths a_draft a_glued_picks) H → va_D A (jw_Planner_draftChain_glued E q_this q_book q_prefixed q_glued q_joined q_trial q_words q_draft q_latest q_book_kinds q_book_strokeCounts q_book_strokes q_book_lengths q_book_letters q_glued_costs q_glued_picks c_length c_drafted c_latestEntries c_latestStrokes c_latestClear c_book_size c_glued_innerKind c_glued_lastKind a_book_lengths a_draft a_glued_picks) → va_S A s.heap H locs → lv_has ls 6 [(0, .ref q_this), (1, .ref q_glued), (3, .int x3), (4, .int x4), (5, .int x5)] → W p l e jr_Planner_draftChain_glued s m args below meth c H locs 0 0 Q (F0 m 6 ls [])) (x4 : Int32) (x5 : Int32) (c_drafted : Int32) (a_draft : (Nat → Int32)) (H : Heap) (locs : List Loc) (ls : Array Slot), jf_Planner_draftChain_glued_b47 k6 x4 x5 c_drafted a_draft = some T → va_P E.1 vwCl (jw_Planner_draftChain_glued E q_this q_book q_prefixed q_glued q_joined q_trial q_words q_draft q_latest q_book_kinds q_book_strokeCounts q_book_strokes q_book_lengths q_book_letters q_glued_costs q_glued_picks c_length c_drafted c_latestEntries c_latestStrokes c_latestClear c_book_size c_glued_innerKind c_glued_lastKind a_book_lengths a_draft a_glued_picks) H → va_D A (jw_Planner_draftChain_glued E q_this q_book q_prefixed q_glued q_joined q_trial q_words q_draft q_latest q_book_kinds q_book_strokeCounts q_book_strokes q_book_lengths q_book_letters q_glued_costs q_glued_picks c_length c_drafted c_latestEntries c_latestStrokes c_latestClear c_book_size c_glued_innerKind c_glued_lastKind a_book_lengths a_draft a_glued_picks) → va_S A s.heap H locs → lv_has ls 6 [(0, .ref q_this), (1, .ref q_glued), (3, .int x3), (4, .int x4), (5, .int x5)] → W p l e jr_Planner_draftChain_glued s m args below meth c H locs 0 0 Q (F0 m 47 ls []) := by
    intro k6 hk6 x4 x5 c_drafted a_draft H locs ls h hP hD hS hl
    unfold jf_Planner_draftChain_glued_b47 at h
    refine lv_iinc (v := (x5 + 1)) (lv' := [(5, .int (x5 + 1)), (0, .ref q_this), (1, .ref q_glued), (3, .int x3), (4, .int x4)]) hx hb dX5_draftChain_47 hl (k := 4) rfl rfl (by decide) rfl (fun ls hl => ?_)
    refine lv_goto (tgt := 6) hx hb dX5_draftChain_50 (by decide) ?_
    exact hk6 x4 (x5 + 1) c_drafted a_draft _ _ _ h hP hD hS (lv_sub hl [1, 2, 3, 4, 0] rfl)
  have kb6 : ∀ (n : Nat) (x4 : Int32) (x5 : Int32) (c_drafted : Int32) (a_draft : (Nat → Int32)) (H : Heap) (locs : List Loc) (ls : Array Slot), jf_Planner_draftChain_glued_b6 x3 c_book_size a_book_lengths a_glued_picks n x4 x5 c_drafted a_draft = some T → va_P E.1 vwCl (jw_Planner_draftChain_glued E q_this q_book q_prefixed q_glued q_joined q_trial q_words q_draft q_latest q_book_kinds q_book_strokeCounts q_book_strokes q_book_lengths q_book_letters q_glued_costs q_glued_picks c_length c_drafted c_latestEntries c_latestStrokes c_latestClear c_book_size c_glued_innerKind c_glued_lastKind a_book_lengths a_draft a_glued_picks) H → va_D A (jw_Planner_draftChain_glued E q_this q_book q_prefixed q_glued q_joined q_trial q_words q_draft q_latest q_book_kinds q_book_strokeCounts q_book_strokes q_book_lengths q_book_letters q_glued_costs q_glued_picks c_length c_drafted c_latestEntries c_latestStrokes c_latestClear c_book_size c_glued_innerKind c_glued_lastKind a_book_lengths a_draft a_glued_picks) → va_S A s.heap H locs → lv_has ls 6 [(0, .ref q_this), (1, .ref q_glued), (3, .int x3), (4, .int x4), (5, .int x5)] → W p l e jr_Planner_draftChain_glued s m args below meth c H locs 0 0 Q (F0 m 6 ls []) := by
    intro n
    induction n with
    | zero => intro x4 x5 c_drafted a_draft H locs ls h; exact j_none (α := Int32 × (Nat → Int32)) h
    | succ n ih =>
      intro x4 x5 c_drafted a_draft H locs ls h hP hD hS hl
      rw [jf_Planner_draftChain_glued_b6] at h
      refine lv_iload hx hb dX5_draftChain_6 (lv_at hl 4 rfl) ?_
      refine lv_iload_n hx hb dX5_draftChain_8 rfl (lv_at hl 2 rfl) ?_
      refine lv_icmp_ge (tgt := 53) hx hb dX5_draftChain_9 (by decide) (fun hq9 => ?_) (fun hq9 => ?_)
      · replace h := jif_t hq9 h
        exact j_vret (u := (c_drafted, a_draft)) (wv := (fun T => (jw_Planner_draftChain_glued E q_this q_book q_prefixed q_glued q_joined q_trial q_words q_draft q_latest q_book_kinds q_book_strokeCounts q_book_strokes q_book_lengths q_book_letters q_glued_costs q_glued_picks c_length T.1 c_latestEntries c_latestStrokes c_latestClear c_book_size c_glued_innerKind c_glued_lastKind a_book_lengths T.2 a_glued_picks))) h hQ hx hb hr hlocks hS hP hD dX5_draftChain_53
      · replace h := jif_f hq9 h
        refine lv_iload hx hb dX5_draftChain_12 (lv_at hl 4 rfl) ?_
        refine lv_iload hx hb dX5_draftChain_14 (lv_at hl 3 rfl) ?_
        refine lv_icmp_ne (tgt := 47) hx hb dX5_draftChain_16 (by decide) (fun hq16 => ?_) (fun hq16 => ?_)
        · replace h := jif_f hq16 h
          exact kb47 (jf_Planner_draftChain_glued_b6 x3 c_book_size a_book_lengths a_glued_picks n) ih  x4 x5 c_drafted a_draft _ _ _ h hP hD hS (lv_sub hl [0, 1, 2, 3, 4] rfl)
        · replace h := jif_t hq16 h
          refine lv_aload_n hx hb dX5_draftChain_19 rfl (lv_at hl 0 rfl) ?_
          refine lv_aload_n hx hb dX5_draftChain_20 rfl (lv_at hl 1 rfl) ?_
          refine lv_iload hx hb dX5_draftChain_21 (lv_at hl 4 rfl) ?_
          obtain ⟨r23, hf23, h⟩ := jbd h
          refine j_callVi (own := RX5) (As := [.int x5]) (rest := [.ref q_this]) hx hb hml hown hts hK hA hP hD hS (jc_Chain_pickAt l E q_glued q_book q_glued_costs q_glued_picks c_glued_innerKind c_glued_lastKind a_glued_picks x5 N hf23) gX5_draftChain_X1_pickAt rfl ⟨rfl, rfl⟩ 1 (by decide +kernel) rfl rfl 2 1 rfl rfl [2, 5] [0, 1, 3, 4] [0, 1, 4, 2, 3, 5] rfl rfl rfl rfl rfl rfl rfl hl.1 rfl rfl dX5_draftChain_23 (fun H locs hP hD hS => ?_)
          replace hP : va_P E.1 vwCl (jw_Planner_draftChain_glued E q_this q_book q_prefixed q_glued q_joined q_trial q_words q_draft q_latest q_book_kinds q_book_strokeCounts q_book_strokes q_book_lengths q_book_letters q_glued_costs q_glued_picks c_length c_drafted c_latestEntries c_latestStrokes c_latestClear c_book_size c_glued_innerKind c_glued_lastKind a_book_lengths a_draft a_glued_picks) H := hP
          replace hD : va_D A (jw_Planner_draftChain_glued E q_this q_book q_prefixed q_glued q_joined q_trial q_words q_draft q_latest q_book_kinds q_book_strokeCounts q_book_strokes q_book_lengths q_book_letters q_glued_costs q_glued_picks c_length c_drafted c_latestEntries c_latestStrokes c_latestClear c_book_size c_glued_innerKind c_glued_lastKind a_book_lengths a_draft a_glued_picks) := hD
          obtain ⟨⟨c_drafted_26, a_draft_26⟩, hf26, h⟩ := jbd h
          refine j_callVv (own := RX5) (As := [.int r23]) (rest := []) hx hb hml hown hts hK hA hP hD hS (jc_Planner_draftEntry l E q_this q_book q_prefixed q_glued q_joined q_trial q_words q_draft q_latest c_length c_drafted c_latestEntries c_latestStrokes c_latestClear a_draft r23 N hf26) gX5_draftChain_X5_draftEntry rfl ⟨rfl, rfl⟩ 1 (by decide +kernel) rfl rfl 0 5 rfl rfl [0, 4] [1, 2, 3, 5] [4, 0, 1, 2, 5, 3] rfl rfl rfl rfl rfl rfl rfl hl.1 rfl rfl dX5_draftChain_26 (fun H locs hP hD hS => ?_)
          replace hP : va_P E.1 vwCl (jw_Planner_draftChain_glued E q_this q_book q_prefixed q_glued q_joined q_trial q_words q_draft q_latest q_book_kinds q_book_strokeCounts q_book_strokes q_book_lengths q_book_letters q_glued_costs q_glued_picks c_length c_drafted_26 c_latestEntries c_latestStrokes c_latestClear c_book_size c_glued_innerKind c_glued_lastKind a_book_lengths a_draft_26 a_glued_picks) H := hP
          replace hD : va_D A (jw_Planner_draftChain_glued E q_this q_book q_prefixed q_glued q_joined q_trial q_words q_draft q_latest q_book_kinds q_book_strokeCounts q_book_strokes q_book_lengths q_book_letters q_glued_costs q_glued_picks c_length c_drafted_26 c_latestEntries c_latestStrokes c_latestClear c_book_size c_glued_innerKind c_glued_lastKind a_book_lengths a_draft_26 a_glued_picks) := hD
          refine lv_iload hx hb dX5_draftChain_29 (lv_at hl 3 rfl) ?_
          refine lv_aload_n hx hb dX5_draftChain_31 rfl (lv_at hl 0 rfl) ?_
          refine va_get (D := E.1) (ci := 5) (v := .ref q_book) (C := RX5) (T := TX5) (N := 13) hx hb hts hin5 hown hK.1 hP 0 rfl rfl 0 (by decide) hk_26 (fun _ h9 => h9) rfl dX5_draftChain_32 ?_
          refine lv_aload_n hx hb dX5_draftChain_35 rfl (lv_at hl 1 rfl) ?_
          refine lv_iload hx hb dX5_draftChain_36 (lv_at hl 4 rfl) ?_
          obtain ⟨r38, hf38, h⟩ := jbd h
          refine j_callVi (own := RX5) (As := [.int x5]) (rest := [.ref q_book, .int x4]) hx hb hml hown hts hK hA hP hD hS (jc_Chain_pickAt l E q_glued q_book q_glued_costs q_glued_picks c_glued_innerKind c_glued_lastKind a_glued_picks x5 N hf38) gX5_draftChain_X1_pickAt rfl ⟨rfl, rfl⟩ 1 (by decide +kernel) rfl rfl 2 1 rfl rfl [2, 5] [0, 1, 3, 4] [0, 1, 4, 2, 3, 5] rfl rfl rfl rfl rfl rfl rfl hl.1 rfl rfl dX5_draftChain_38 (fun H locs hP hD hS => ?_)
          replace hP : va_P E.1 vwCl (jw_Planner_draftChain_glued E q_this q_book q_prefixed q_glued q_joined q_trial q_words q_draft q_latest q_book_kinds q_book_strokeCounts q_book_strokes q_book_lengths q_book_letters q_glued_costs q_glued_picks c_length c_drafted_26 c_latestEntries c_latestStrokes c_latestClear c_book_size c_glued_innerKind c_glued_lastKind a_book_lengths a_draft_26 a_glued_picks) H := hP
          replace hD : va_D A (jw_Planner_draftChain_glued E q_this q_book q_prefixed q_glued q_joined q_trial q_words q_draft q_latest q_book_kinds q_book_strokeCounts q_book_strokes q_book_lengths q_book_letters q_glued_costs q_glued_picks c_length c_drafted_26 c_latestEntries c_latestStrokes c_latestClear c_book_size c_glued_innerKind c_glued_lastKind a_book_lengths a_draft_26 a_glued_picks) := hD
          obtain ⟨r41, hf41, h⟩ := jbd h
          refine j_callVi (own := RX5) (As := [.int r38]) (rest := [.int x4]) hx hb hml hown hts hK hA hP hD hS (jc_Book_lengthOf l E q_book q_book_kinds q_book_strokeCounts q_book_strokes q_book_lengths q_book_letters c_book_size a_book_lengths r38 N hf41) gX5_draftChain_X0_lengthOf rfl ⟨rfl, rfl⟩ 1 (by decide +kernel) rfl rfl 1 0 rfl rfl [1, 3] [0, 2, 4, 5] [0, 4, 1, 5, 2, 3] rfl rfl rfl rfl rfl rfl rfl hl.1 rfl rfl dX5_draftChain_41 (fun H locs hP hD hS => ?_)
          replace hP : va_P E.1 vwCl (jw_Planner_draftChain_glued E q_this q_book q_prefixed q_glued q_joined q_trial q_words q_draft q_latest q_book_kinds q_book_strokeCounts q_book_strokes q_book_lengths q_book_letters q_glued_costs q_glued_picks c_length c_drafted_26 c_latestEntries c_latestStrokes c_latestClear c_book_size c_glued_innerKind c_glued_lastKind a_book_lengths a_draft_26 a_glued_picks) H := hP
          replace hD : va_D A (jw_Planner_draftChain_glued E q_this q_book q_prefixed q_glued q_joined q_trial q_words q_draft q_latest q_book_kinds q_book_strokeCounts q_book_strokes q_book_lengths q_book_letters q_glued_costs q_glued_picks c_length c_drafted_26 c_latestEntries c_latestStrokes c_latestClear c_book_size c_glued_innerKind c_glued_lastKind a_book_lengths a_draft_26 a_glued_picks) := hD
          refine lv_iadd hx hb dX5_draftChain_44 ?_
          refine lv_istore (lv' := [(4, .int (x4 + r41)), (0, .ref q_this), (1, .ref q_glued), (3, .int x3), (5, .int x5)]) hx hb dX5_draftChain_45 hl (by decide) rfl (fun ls hl => ?_)
          exact kb47 (jf_Planner_draftChain_glued_b6 x3 c_book_size a_book_lengths a_glued_picks n) ih  (x4 + r41) x5 c_drafted_26 a_draft_26 _ _ _ h hP hD hS (lv_sub hl [1, 2, 3, 0, 4] rfl)
  unfold jf_Planner_draftChain_glued at h
  refine lv_iload_n hx hb dX5_draftChain_0 rfl (lv_at hl 2 rfl) ?_
  refine lv_istore (lv' := [(4, .int x2), (0, .ref q_this), (1, .ref q_glued), (2, .int x2), (3, .int x3)]) hx hb dX5_draftChain_1 hl (by decide) rfl (fun ls hl => ?_)
  refine lv_iload_n hx hb dX5_draftChain_3 rfl (lv_at hl 3 rfl) ?_
  refine lv_istore (lv' := [(5, .int x2), (4, .int x2), (0, .ref q_this), (1, .ref q_glued), (2, .int x2), (3, .int x3)]) hx hb dX5_draftChain_4 hl (by decide) rfl (fun ls hl => ?_)
  exact kb6  N x2 x2 c_drafted a_draft _ _ _ h hP hD hS (lv_sub hl [2, 3, 5, 1, 0] rfl)
abbrev jw_Planner_draftChain_prefixed (E : jE) (q_this q_book q_prefixed q_glued q_joined q_trial q_words q_draft q_latest q_book_kinds q_book_strokeCounts q_book_strokes q_book_lengths q_book_letters q_prefixed_costs q_prefixed_picks : Nat) (c_length : Int32) (c_drafted : Int32) (c_latestEntries : Int32) (c_latestStrokes : Int32) (c_latestClear : Int32) (c_book_size : Int32) (c_prefixed_innerKind : Int32) (c_prefixed_lastKind : Int32) (a_book_lengths : (Nat → Int32)) (a_draft : (Nat → Int32)) (a_prefixed_picks : (Nat → Int32)) : va_W := [(q_this, .inr (5, [.ref q_book, .ref q_prefixed, .ref q_glued, .ref q_joined, .ref q_trial, .ref q_words, .int c_length, .ref q_draft, .int c_drafted, .ref q_latest, .int c_latestEntries, .int c_latestStrokes, .int c_latestClear])), (q_book, .inr (0, [.ref q_book_kinds, .ref q_book_strokeCounts, .ref q_book_strokes, .ref q_book_lengths, .ref q_book_letters, .int c_book_size])), (q_prefixed, .inr (1, [.ref q_book, .int c_prefixed_innerKind, .int c_prefixed_lastKind, .ref q_prefixed_costs, .ref q_prefixed_picks])), (q_book_lengths, .inl (E.2.2.1, 60, .inl a_book_lengths)), (q_draft, .inl (E.2.2.1, 60, .inl a_draft)), (q_prefixed_picks, .inl (E.2.2.1, 60, .inl a_prefixed_picks))]
def jr_Planner_draftChain_prefixed : Room := { frames := 1, cells := 0, slots := 0, locals := 21 }
set_option maxHeartbeats 4000000 in
set_option maxRecDepth 100000 in
theorem jc_Planner_draftChain_prefixed (l : Launch) (E : jE) (q_this q_book q_prefixed q_glued q_joined q_trial q_words q_draft q_latest q_book_kinds q_book_strokeCounts q_book_strokes q_book_lengths q_book_letters q_prefixed_costs q_prefixed_picks : Nat) (c_length : Int32) (c_drafted : Int32) (c_latestEntries : Int32) (c_latestStrokes : Int32) (c_latestClear : Int32) (c_book_size : Int32) (c_prefixed_innerKind : Int32) (c_prefixed_lastKind : Int32) (a_book_lengths : (Nat → Int32)) (a_draft : (Nat → Int32)) (a_prefixed_picks : (Nat → Int32)) (x2 : Int32) (x3 : Int32) (N : Nat) {T : Int32 × (Nat → Int32)} (h : jf_Planner_draftChain_prefixed N x2 x3 c_book_size a_book_lengths a_prefixed_picks c_drafted a_draft = some T) : jMv l yX5_draftChain wsX5_draftChain jr_Planner_draftChain_prefixed E [.ref q_this, .ref q_prefixed, .int x2, .int x3] (jw_Planner_draftChain_prefixed E q_this q_book q_prefixed q_glued q_joined q_trial q_words q_draft q_latest q_book_kinds q_book_strokeCounts q_book_strokes q_book_lengths q_book_letters q_prefixed_costs q_prefixed_picks c_length c_drafted c_latestEntries c_latestStrokes c_latestClear c_book_size c_prefixed_innerKind c_prefixed_lastKind a_book_lengths a_draft a_prefixed_picks) (jw_Planner_draftChain_prefixed E q_this q_book q_prefixed q_glued q_joined q_trial q_words q_draft q_latest q_book_kinds q_book_strokeCounts q_book_strokes q_book_lengths q_book_letters q_prefixed_costs q_prefixed_picks c_length T.1 c_latestEntries c_latestStrokes c_latestClear c_book_size c_prefixed_innerKind c_prefixed_lastKind a_book_lengths T.2 a_prefixed_picks) := by
  refine jMv.begin (cc := cX5_draftChain) (maxL := 6) (ret := none) (by decide) rfl (Nat.le_of_ble_eq_true rfl) ?_
  intro p e s m args below meth c A ls Q hQ hx hb hr hml hown hlocks hts hK hA hP hD hS hl
  replace hown : s.vm.findClass RX5 = some m.cls := hown
  replace hl : lv_has ls 6 [(0, .ref q_this), (1, .ref q_prefixed), (2, .int x2), (3, .int x3)] := hl
  have hin5 : ∀ w ∈ u_ws RX5 TX5 13, w ∈ wsX5_draftChain := by decide +kernel
  have hk_26 := hts (.fieldLink RX5 26 "StenoRoom$Planner" "book" "LStenoRoom$Book;") (by decide +kernel)
  have kb47 : ∀ (k6 : Int32 → Int32 → Int32 → (Nat → Int32) → Option (Int32 × (Nat → Int32))) (hk6 : ∀ (x4 : Int32) (x5 : Int32) (c_drafted : Int32) (a_draft : (Nat → Int32)) (H : Heap) (locs : List Loc) (ls : Array Slot), k6 x4 x5 c_drafted a_draft = some T → va_P E.1 vwCl (jw_Planner_draftChain_prefixed E q_this q_book q_prefixed q_glued q_joined q_trial q_words q_draft q_latest q_book_kinds q_book_strokeCounts q_book_strokes q_book_lengths q_book_letters q_prefixed_costs q_prefixed_picks c_length c_drafted c_latestEntries c_latestStrokes c_latestClear c_book_size c_prefixed_innerKind c_prefixed_lastKind a_book_lengths a_draft a_prefixed_picks) H → va_D A (jw_Planner_draftChain_prefixed E q_this q_book q_prefixed q_glued q_joined q_trial q_words q_draft q_latest q_book_kinds q_book_strokeCounts q_book_strokes q_book_lengths q_book_letters q_prefixed_costs q_prefixed_picks c_length c_drafted c_latestEntries c_latestStrokes c_latestClear c_book_size c_prefixed_innerKind c_prefixed_lastKind a_book_lengths a_draft a_prefixed_picks) → va_S A s.heap H locs → lv_has ls 6 [(0, .ref q_this), (1, .ref q_prefixed), (3, .int x3), (4, .int x4), (5, .int x5)] → W p l e jr_Planner_draftChain_prefixed s m args below meth c H locs 0 0 Q (F0 m 6 ls [])) (x4 : Int32) (x5 : Int32) (c_drafted : Int32) (a_draft : (Nat → Int32)) (H : Heap) (locs : List Loc) (ls : Array Slot), jf_Planner_draftChain_prefixed_b47 k6 x4 x5 c_drafted a_draft = some T → va_P E.1 vwCl (jw_Planner_draftChain_prefixed E q_this q_book q_prefixed q_glued q_joined q_trial q_words q_draft q_latest q_book_kinds q_book_strokeCounts q_book_strokes q_book_lengths q_book_letters q_prefixed_costs q_prefixed_picks c_length c_drafted c_latestEntries c_latestStrokes c_latestClear c_book_size c_prefixed_innerKind c_prefixed_lastKind a_book_lengths a_draft a_prefixed_picks) H → va_D A (jw_Planner_draftChain_prefixed E q_this q_book q_prefixed q_glued q_joined q_trial q_words q_draft q_latest q_book_kinds q_book_strokeCounts q_book_strokes q_book_lengths q_book_letters q_prefixed_costs q_prefixed_picks c_length c_drafted c_latestEntries c_latestStrokes c_latestClear c_book_size c_prefixed_innerKind c_prefixed_lastKind a_book_lengths a_draft a_prefixed_picks) → va_S A s.heap H locs → lv_has ls 6 [(0, .ref q_this), (1, .ref q_prefixed), (3, .int x3), (4, .int x4), (5, .int x5)] → W p l e jr_Planner_draftChain_prefixed s m args below meth c H locs 0 0 Q (F0 m 47 ls []) := by
    intro k6 hk6 x4 x5 c_drafted a_draft H locs ls h hP hD hS hl
    unfold jf_Planner_draftChain_prefixed_b47 at h
    refine lv_iinc (v := (x5 + 1)) (lv' := [(5, .int (x5 + 1)), (0, .ref q_this), (1, .ref q_prefixed), (3, .int x3), (4, .int x4)]) hx hb dX5_draftChain_47 hl (k := 4) rfl rfl (by decide) rfl (fun ls hl => ?_)
    refine lv_goto (tgt := 6) hx hb dX5_draftChain_50 (by decide) ?_
    exact hk6 x4 (x5 + 1) c_drafted a_draft _ _ _ h hP hD hS (lv_sub hl [1, 2, 3, 4, 0] rfl)
  have kb6 : ∀ (n : Nat) (x4 : Int32) (x5 : Int32) (c_drafted : Int32) (a_draft : (Nat → Int32)) (H : Heap) (locs : List Loc) (ls : Array Slot), jf_Planner_draftChain_prefixed_b6 x3 c_book_size a_book_lengths a_prefixed_picks n x4 x5 c_drafted a_draft = some T → va_P E.1 vwCl (jw_Planner_draftChain_prefixed E q_this q_book q_prefixed q_glued q_joined q_trial q_words q_draft q_latest q_book_kinds q_book_strokeCounts q_book_strokes q_book_lengths q_book_letters q_prefixed_costs q_prefixed_picks c_length c_drafted c_latestEntries c_latestStrokes c_latestClear c_book_size c_prefixed_innerKind c_prefixed_lastKind a_book_lengths a_draft a_prefixed_picks) H → va_D A (jw_Planner_draftChain_prefixed E q_this q_book q_prefixed q_glued q_joined q_trial q_words q_draft q_latest q_book_kinds q_book_strokeCounts q_book_strokes q_book_lengths q_book_letters q_prefixed_costs q_prefixed_picks c_length c_drafted c_latestEntries c_latestStrokes c_latestClear c_book_size c_prefixed_innerKind c_prefixed_lastKind a_book_lengths a_draft a_prefixed_picks) → va_S A s.heap H locs → lv_has ls 6 [(0, .ref q_this), (1, .ref q_prefixed), (3, .int x3), (4, .int x4), (5, .int x5)] → W p l e jr_Planner_draftChain_prefixed s m args below meth c H locs 0 0 Q (F0 m 6 ls []) := by
    intro n
    induction n with
    | zero => intro x4 x5 c_drafted a_draft H locs ls h; exact j_none (α := Int32 × (Nat → Int32)) h
    | succ n ih =>
      intro x4 x5 c_drafted a_draft H locs ls h hP hD hS hl
      rw [jf_Planner_draftChain_prefixed_b6] at h
      refine lv_iload hx hb dX5_draftChain_6 (lv_at hl 4 rfl) ?_
      refine lv_iload_n hx hb dX5_draftChain_8 rfl (lv_at hl 2 rfl) ?_
      refine lv_icmp_ge (tgt := 53) hx hb dX5_draftChain_9 (by decide) (fun hq9 => ?_) (fun hq9 => ?_)
      · replace h := jif_t hq9 h
        exact j_vret (u := (c_drafted, a_draft)) (wv := (fun T => (jw_Planner_draftChain_prefixed E q_this q_book q_prefixed q_glued q_joined q_trial q_words q_draft q_latest q_book_kinds q_book_strokeCounts q_book_strokes q_book_lengths q_book_letters q_prefixed_costs q_prefixed_picks c_length T.1 c_latestEntries c_latestStrokes c_latestClear c_book_size c_prefixed_innerKind c_prefixed_lastKind a_book_lengths T.2 a_prefixed_picks))) h hQ hx hb hr hlocks hS hP hD dX5_draftChain_53
      · replace h := jif_f hq9 h
        refine lv_iload hx hb dX5_draftChain_12 (lv_at hl 4 rfl) ?_
        refine lv_iload hx hb dX5_draftChain_14 (lv_at hl 3 rfl) ?_
        refine lv_icmp_ne (tgt := 47) hx hb dX5_draftChain_16 (by decide) (fun hq16 => ?_) (fun hq16 => ?_)
        · replace h := jif_f hq16 h
          exact kb47 (jf_Planner_draftChain_prefixed_b6 x3 c_book_size a_book_lengths a_prefixed_picks n) ih  x4 x5 c_drafted a_draft _ _ _ h hP hD hS (lv_sub hl [0, 1, 2, 3, 4] rfl)
        · replace h := jif_t hq16 h
          refine lv_aload_n hx hb dX5_draftChain_19 rfl (lv_at hl 0 rfl) ?_
          refine lv_aload_n hx hb dX5_draftChain_20 rfl (lv_at hl 1 rfl) ?_
          refine lv_iload hx hb dX5_draftChain_21 (lv_at hl 4 rfl) ?_
          obtain ⟨r23, hf23, h⟩ := jbd h
          refine j_callVi (own := RX5) (As := [.int x5]) (rest := [.ref q_this]) hx hb hml hown hts hK hA hP hD hS (jc_Chain_pickAt l E q_prefixed q_book q_prefixed_costs q_prefixed_picks c_prefixed_innerKind c_prefixed_lastKind a_prefixed_picks x5 N hf23) gX5_draftChain_X1_pickAt rfl ⟨rfl, rfl⟩ 1 (by decide +kernel) rfl rfl 2 1 rfl rfl [2, 5] [0, 1, 3, 4] [0, 1, 4, 2, 3, 5] rfl rfl rfl rfl rfl rfl rfl hl.1 rfl rfl dX5_draftChain_23 (fun H locs hP hD hS => ?_)
          replace hP : va_P E.1 vwCl (jw_Planner_draftChain_prefixed E q_this q_book q_prefixed q_glued q_joined q_trial q_words q_draft q_latest q_book_kinds q_book_strokeCounts q_book_strokes q_book_lengths q_book_letters q_prefixed_costs q_prefixed_picks c_length c_drafted c_latestEntries c_latestStrokes c_latestClear c_book_size c_prefixed_innerKind c_prefixed_lastKind a_book_lengths a_draft a_prefixed_picks) H := hP
          replace hD : va_D A (jw_Planner_draftChain_prefixed E q_this q_book q_prefixed q_glued q_joined q_trial q_words q_draft q_latest q_book_kinds q_book_strokeCounts q_book_strokes q_book_lengths q_book_letters q_prefixed_costs q_prefixed_picks c_length c_drafted c_latestEntries c_latestStrokes c_latestClear c_book_size c_prefixed_innerKind c_prefixed_lastKind a_book_lengths a_draft a_prefixed_picks) := hD
          obtain ⟨⟨c_drafted_26, a_draft_26⟩, hf26, h⟩ := jbd h
          refine j_callVv (own := RX5) (As := [.int r23]) (rest := []) hx hb hml hown hts hK hA hP hD hS (jc_Planner_draftEntry l E q_this q_book q_prefixed q_glued q_joined q_trial q_words q_draft q_latest c_length c_drafted c_latestEntries c_latestStrokes c_latestClear a_draft r23 N hf26) gX5_draftChain_X5_draftEntry rfl ⟨rfl, rfl⟩ 1 (by decide +kernel) rfl rfl 0 5 rfl rfl [0, 4] [1, 2, 3, 5] [4, 0, 1, 2, 5, 3] rfl rfl rfl rfl rfl rfl rfl hl.1 rfl rfl dX5_draftChain_26 (fun H locs hP hD hS => ?_)
          replace hP : va_P E.1 vwCl (jw_Planner_draftChain_prefixed E q_this q_book q_prefixed q_glued q_joined q_trial q_words q_draft q_latest q_book_kinds q_book_strokeCounts q_book_strokes q_book_lengths q_book_letters q_prefixed_costs q_prefixed_picks c_length c_drafted_26 c_latestEntries c_latestStrokes c_latestClear c_book_size c_prefixed_innerKind c_prefixed_lastKind a_book_lengths a_draft_26 a_prefixed_picks) H := hP
          replace hD : va_D A (jw_Planner_draftChain_prefixed E q_this q_book q_prefixed q_glued q_joined q_trial q_words q_draft q_latest q_book_kinds q_book_strokeCounts q_book_strokes q_book_lengths q_book_letters q_prefixed_costs q_prefixed_picks c_length c_drafted_26 c_latestEntries c_latestStrokes c_latestClear c_book_size c_prefixed_innerKind c_prefixed_lastKind a_book_lengths a_draft_26 a_prefixed_picks) := hD
          refine lv_iload hx hb dX5_draftChain_29 (lv_at hl 3 rfl) ?_
          refine lv_aload_n hx hb dX5_draftChain_31 rfl (lv_at hl 0 rfl) ?_
          refine va_get (D := E.1) (ci := 5) (v := .ref q_book) (C := RX5) (T := TX5) (N := 13) hx hb hts hin5 hown hK.1 hP 0 rfl rfl 0 (by decide) hk_26 (fun _ h9 => h9) rfl dX5_draftChain_32 ?_
          refine lv_aload_n hx hb dX5_draftChain_35 rfl (lv_at hl 1 rfl) ?_
          refine lv_iload hx hb dX5_draftChain_36 (lv_at hl 4 rfl) ?_
          obtain ⟨r38, hf38, h⟩ := jbd h
          refine j_callVi (own := RX5) (As := [.int x5]) (rest := [.ref q_book, .int x4]) hx hb hml hown hts hK hA hP hD hS (jc_Chain_pickAt l E q_prefixed q_book q_prefixed_costs q_prefixed_picks c_prefixed_innerKind c_prefixed_lastKind a_prefixed_picks x5 N hf38) gX5_draftChain_X1_pickAt rfl ⟨rfl, rfl⟩ 1 (by decide +kernel) rfl rfl 2 1 rfl rfl [2, 5] [0, 1, 3, 4] [0, 1, 4, 2, 3, 5] rfl rfl rfl rfl rfl rfl rfl hl.1 rfl rfl dX5_draftChain_38 (fun H locs hP hD hS => ?_)
          replace hP : va_P E.1 vwCl (jw_Planner_draftChain_prefixed E q_this q_book q_prefixed q_glued q_joined q_trial q_words q_draft q_latest q_book_kinds q_book_strokeCounts q_book_strokes q_book_lengths q_book_letters q_prefixed_costs q_prefixed_picks c_length c_drafted_26 c_latestEntries c_latestStrokes c_latestClear c_book_size c_prefixed_innerKind c_prefixed_lastKind a_book_lengths a_draft_26 a_prefixed_picks) H := hP
          replace hD : va_D A (jw_Planner_draftChain_prefixed E q_this q_book q_prefixed q_glued q_joined q_trial q_words q_draft q_latest q_book_kinds q_book_strokeCounts q_book_strokes q_book_lengths q_book_letters q_prefixed_costs q_prefixed_picks c_length c_drafted_26 c_latestEntries c_latestStrokes c_latestClear c_book_size c_prefixed_innerKind c_prefixed_lastKind a_book_lengths a_draft_26 a_prefixed_picks) := hD
          obtain ⟨r41, hf41, h⟩ := jbd h
          refine j_callVi (own := RX5) (As := [.int r38]) (rest := [.int x4]) hx hb hml hown hts hK hA hP hD hS (jc_Book_lengthOf l E q_book q_book_kinds q_book_strokeCounts q_book_strokes q_book_lengths q_book_letters c_book_size a_book_lengths r38 N hf41) gX5_draftChain_X0_lengthOf rfl ⟨rfl, rfl⟩ 1 (by decide +kernel) rfl rfl 1 0 rfl rfl [1, 3] [0, 2, 4, 5] [0, 4, 1, 5, 2, 3] rfl rfl rfl rfl rfl rfl rfl hl.1 rfl rfl dX5_draftChain_41 (fun H locs hP hD hS => ?_)
          replace hP : va_P E.1 vwCl (jw_Planner_draftChain_prefixed E q_this q_book q_prefixed q_glued q_joined q_trial q_words q_draft q_latest q_book_kinds q_book_strokeCounts q_book_strokes q_book_lengths q_book_letters q_prefixed_costs q_prefixed_picks c_length c_drafted_26 c_latestEntries c_latestStrokes c_latestClear c_book_size c_prefixed_innerKind c_prefixed_lastKind a_book_lengths a_draft_26 a_prefixed_picks) H := hP
          replace hD : va_D A (jw_Planner_draftChain_prefixed E q_this q_book q_prefixed q_glued q_joined q_trial q_words q_draft q_latest q_book_kinds q_book_strokeCounts q_book_strokes q_book_lengths q_book_letters q_prefixed_costs q_prefixed_picks c_length c_drafted_26 c_latestEntries c_latestStrokes c_latestClear c_book_size c_prefixed_innerKind c_prefixed_lastKind a_book_lengths a_draft_26 a_prefixed_picks) := hD
          refine lv_iadd hx hb dX5_draftChain_44 ?_
          refine lv_istore (lv' := [(4, .int (x4 + r41)), (0, .ref q_this), (1, .ref q_prefixed), (3, .int x3), (5, .int x5)]) hx hb dX5_draftChain_45 hl (by decide) rfl (fun ls hl => ?_)
          exact kb47 (jf_Planner_draftChain_prefixed_b6 x3 c_book_size a_book_lengths a_prefixed_picks n) ih  (x4 + r41) x5 c_drafted_26 a_draft_26 _ _ _ h hP hD hS (lv_sub hl [1, 2, 3, 0, 4] rfl)
  unfold jf_Planner_draftChain_prefixed at h
  refine lv_iload_n hx hb dX5_draftChain_0 rfl (lv_at hl 2 rfl) ?_
  refine lv_istore (lv' := [(4, .int x2), (0, .ref q_this), (1, .ref q_prefixed), (2, .int x2), (3, .int x3)]) hx hb dX5_draftChain_1 hl (by decide) rfl (fun ls hl => ?_)
  refine lv_iload_n hx hb dX5_draftChain_3 rfl (lv_at hl 3 rfl) ?_
  refine lv_istore (lv' := [(5, .int x2), (4, .int x2), (0, .ref q_this), (1, .ref q_prefixed), (2, .int x2), (3, .int x3)]) hx hb dX5_draftChain_4 hl (by decide) rfl (fun ls hl => ?_)
  exact kb6  N x2 x2 c_drafted a_draft _ _ _ h hP hD hS (lv_sub hl [2, 3, 5, 1, 0] rfl)
abbrev jw_Join_word (E : jE) (q_this q_book q_trial : Nat) (c_word : Int32) (c_suffix : Int32) : va_W := [(q_this, .inr (3, [.ref q_book, .ref q_trial, .int c_word, .int c_suffix]))]
def jr_Join_word : Room := { frames := 0, cells := 0, slots := 0, locals := 0 }
set_option maxHeartbeats 4000000 in
set_option maxRecDepth 100000 in
theorem jc_Join_word (l : Launch) (E : jE) (q_this q_book q_trial : Nat) (c_word : Int32) (c_suffix : Int32) (N : Nat) {T : Int32} (h : jf_Join_word c_word = some T) : jMi l yX3_word wsX3_word jr_Join_word E [.ref q_this] (jw_Join_word E q_this q_book q_trial c_word c_suffix) (T) (jw_Join_word E q_this q_book q_trial c_word c_suffix) := by
  refine jMi.begin (cc := cX3_word) (maxL := 1) (ret := (some .int)) (by decide) rfl (Nat.le_of_ble_eq_true rfl) ?_
  intro p e s m args below meth c A ls Q hQ hx hb hr hml hown hlocks hts hK hA hP hD hS hl
  replace hown : s.vm.findClass RX3 = some m.cls := hown
  replace hl : lv_has ls 1 [(0, .ref q_this)] := hl
  have hin3 : ∀ w ∈ u_ws RX3 TX3 4, w ∈ wsX3_word := by decide +kernel
  have hk_24 := hts (.fieldLink RX3 24 "StenoRoom$Join" "word" "I") (by decide +kernel)
  unfold jf_Join_word at h
  refine lv_aload_n hx hb dX3_word_0 rfl (lv_at hl 0 rfl) ?_
  refine va_get (D := E.1) (ci := 3) (v := .int c_word) (C := RX3) (T := TX3) (N := 4) hx hb hts hin3 hown hK.1 hP 0 rfl rfl 2 (by decide) hk_24 (fun _ h9 => h9) rfl dX3_word_1 ?_
  exact j_iret (u := c_word) (rv := (fun T => T)) (wv := (fun _ => (jw_Join_word E q_this q_book q_trial c_word c_suffix))) h hQ hx hb hr rfl hlocks hS hP hD dX3_word_4
abbrev jw_Join_suffix (E : jE) (q_this q_book q_trial : Nat) (c_word : Int32) (c_suffix : Int32) : va_W := [(q_this, .inr (3, [.ref q_book, .ref q_trial, .int c_word, .int c_suffix]))]
def jr_Join_suffix : Room := { frames := 0, cells := 0, slots := 0, locals := 0 }
set_option maxHeartbeats 4000000 in
set_option maxRecDepth 100000 in
theorem jc_Join_suffix (l : Launch) (E : jE) (q_this q_book q_trial : Nat) (c_word : Int32) (c_suffix : Int32) (N : Nat) {T : Int32} (h : jf_Join_suffix c_suffix = some T) : jMi l yX3_suffix wsX3_suffix jr_Join_suffix E [.ref q_this] (jw_Join_suffix E q_this q_book q_trial c_word c_suffix) (T) (jw_Join_suffix E q_this q_book q_trial c_word c_suffix) := by
  refine jMi.begin (cc := cX3_suffix) (maxL := 1) (ret := (some .int)) (by decide) rfl (Nat.le_of_ble_eq_true rfl) ?_
  intro p e s m args below meth c A ls Q hQ hx hb hr hml hown hlocks hts hK hA hP hD hS hl
  replace hown : s.vm.findClass RX3 = some m.cls := hown
  replace hl : lv_has ls 1 [(0, .ref q_this)] := hl
  have hin3 : ∀ w ∈ u_ws RX3 TX3 4, w ∈ wsX3_suffix := by decide +kernel
  have hk_28 := hts (.fieldLink RX3 28 "StenoRoom$Join" "suffix" "I") (by decide +kernel)
  unfold jf_Join_suffix at h
  refine lv_aload_n hx hb dX3_suffix_0 rfl (lv_at hl 0 rfl) ?_
  refine va_get (D := E.1) (ci := 3) (v := .int c_suffix) (C := RX3) (T := TX3) (N := 4) hx hb hts hin3 hown hK.1 hP 0 rfl rfl 3 (by decide) hk_28 (fun _ h9 => h9) rfl dX3_suffix_1 ?_
  exact j_iret (u := c_suffix) (rv := (fun T => T)) (wv := (fun _ => (jw_Join_suffix E q_this q_book q_trial c_word c_suffix))) h hQ hx hb hr rfl hlocks hS hP hD dX3_suffix_4
