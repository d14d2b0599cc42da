abbrev jw_Room_pair (E : jE) (q_this q_tape q_entries q_record q_page q_transcript q_planner q_runs q_chord q_outline q_entries_kinds q_entries_strokeCounts q_entries_strokes q_entries_lengths q_entries_letters q_runs_longer : Nat) (c_entries_size : Int32) (c_runs_size : Int32) (c_runs_skipped : Int32) (a_entries_strokeCounts : (Nat → Int32)) (a_entries_strokes : (Nat → Int32)) (a_runs_longer : (Nat → Int32)) : va_W := [(q_this, .inr (10, [.ref q_tape, .ref q_entries, .ref q_record, .ref q_page, .ref q_transcript, .ref q_planner, .ref q_runs, .ref q_chord, .ref q_outline])), (q_entries, .inr (0, [.ref q_entries_kinds, .ref q_entries_strokeCounts, .ref q_entries_strokes, .ref q_entries_lengths, .ref q_entries_letters, .int c_entries_size])), (q_runs, .inr (7, [.ref q_entries, .ref q_runs_longer, .int c_runs_size, .int c_runs_skipped])), (q_entries_strokeCounts, .inl (E.2.2.1, 60, .inl a_entries_strokeCounts)), (q_entries_strokes, .inl (E.2.2.1, 300, .inl a_entries_strokes)), (q_runs_longer, .inl (E.2.2.1, 60, .inl a_runs_longer))]
def jr_Room_pair : Room := { frames := 4, cells := 0, slots := 0, locals := 95 }
set_option maxHeartbeats 4000000 in
set_option maxRecDepth 100000 in
theorem jc_Room_pair (l : Launch) (E : jE) (q_this q_tape q_entries q_record q_page q_transcript q_planner q_runs q_chord q_outline q_entries_kinds q_entries_strokeCounts q_entries_strokes q_entries_lengths q_entries_letters q_runs_longer : Nat) (c_entries_size : Int32) (c_runs_size : Int32) (c_runs_skipped : Int32) (a_entries_strokeCounts : (Nat → Int32)) (a_entries_strokes : (Nat → Int32)) (a_runs_longer : (Nat → Int32)) (x1 : Int32) (N : Nat) {T : Int32 × Int32 × Int32 × (Nat → Int32)} (h : jf_Room_pair N x1 c_entries_size a_entries_strokeCounts a_entries_strokes c_runs_size c_runs_skipped a_runs_longer = some T) : jMi l yX10_pair wsX10_pair jr_Room_pair E [.ref q_this, .int x1] (jw_Room_pair E q_this q_tape q_entries q_record q_page q_transcript q_planner q_runs q_chord q_outline q_entries_kinds q_entries_strokeCounts q_entries_strokes q_entries_lengths q_entries_letters q_runs_longer c_entries_size c_runs_size c_runs_skipped a_entries_strokeCounts a_entries_strokes a_runs_longer) (T.1) (jw_Room_pair E q_this q_tape q_entries q_record q_page q_transcript q_planner q_runs q_chord q_outline q_entries_kinds q_entries_strokeCounts q_entries_strokes q_entries_lengths q_entries_letters q_runs_longer c_entries_size T.2.1 T.2.2.1 a_entries_strokeCounts a_entries_strokes T.2.2.2) := by
  refine jMi.begin (cc := cX10_pair) (maxL := 2) (ret := (some .int)) (by decide) rfl (Nat.le_of_ble_eq_true rfl) ?_
  intro p e s m args below meth c A ls Q hQ hx hb hr hml hown hlocks hts hK hA hP hD hS hl
  replace hown : s.vm.findClass RX10 = some m.cls := hown
  replace hl : lv_has ls 2 [(0, .ref q_this), (1, .int x1)] := hl
  have hin10 : ∀ w ∈ u_ws RX10 TX10 9, w ∈ wsX10_pair := by decide +kernel
  have hk_60 := hts (.fieldLink RX10 60 "StenoRoom" "runs" "LStenoRoom$Runs;") (by decide +kernel)
  unfold jf_Room_pair at h
  refine lv_iload_n hx hb dX10_pair_0 rfl (lv_at hl 1 rfl) ?_
  refine lv_if_ge (tgt := 8) hx hb dX10_pair_1 (by decide) (fun hq1 => ?_) (fun hq1 => ?_)
  · replace h := jif_t hq1 h
    refine lv_aload_n hx hb dX10_pair_8 rfl (lv_at hl 0 rfl) ?_
    refine va_get (D := E.1) (ci := 10) (v := .ref q_runs) (C := RX10) (T := TX10) (N := 9) hx hb hts hin10 hown hK.1 hP 0 rfl rfl 6 (by decide) hk_60 (fun _ h9 => h9) rfl dX10_pair_9 ?_
    refine lv_iload_n hx hb dX10_pair_12 rfl (lv_at hl 1 rfl) ?_
    obtain ⟨⟨r13, c_runs_size_13, c_runs_skipped_13, a_runs_longer_13⟩, hf13, h⟩ := jbd h
    refine j_callVi (own := RX10) (As := [.int x1]) (rest := []) hx hb hml hown hts hK hA hP hD hS (jc_Runs_pairAt l E q_runs q_entries q_runs_longer q_entries_kinds q_entries_strokeCounts q_entries_strokes q_entries_lengths q_entries_letters c_runs_size c_runs_skipped c_entries_size a_entries_strokeCounts a_entries_strokes a_runs_longer x1 N hf13) gX10_pair_X7_pairAt rfl ⟨rfl, rfl⟩ 1 (by decide +kernel) rfl rfl 2 7 rfl rfl [2, 1, 3, 4, 5] [0] [0, 2, 1, 3, 4, 5] rfl rfl rfl rfl rfl rfl rfl hl.1 rfl rfl dX10_pair_13 (fun H locs hP hD hS => ?_)
    replace hP : va_P E.1 vwCl (jw_Room_pair E q_this q_tape q_entries q_record q_page q_transcript q_planner q_runs q_chord q_outline q_entries_kinds q_entries_strokeCounts q_entries_strokes q_entries_lengths q_entries_letters q_runs_longer c_entries_size c_runs_size_13 c_runs_skipped_13 a_entries_strokeCounts a_entries_strokes a_runs_longer_13) H := hP
    replace hD : va_D A (jw_Room_pair E q_this q_tape q_entries q_record q_page q_transcript q_planner q_runs q_chord q_outline q_entries_kinds q_entries_strokeCounts q_entries_strokes q_entries_lengths q_entries_letters q_runs_longer c_entries_size c_runs_size_13 c_runs_skipped_13 a_entries_strokeCounts a_entries_strokes a_runs_longer_13) := hD
    exact j_iret (u := (r13, c_runs_size_13, c_runs_skipped_13, a_runs_longer_13)) (rv := (fun T => T.1)) (wv := (fun T => (jw_Room_pair E q_this q_tape q_entries q_record q_page q_transcript q_planner q_runs q_chord q_outline q_entries_kinds q_entries_strokeCounts q_entries_strokes q_entries_lengths q_entries_letters q_runs_longer c_entries_size T.2.1 T.2.2.1 a_entries_strokeCounts a_entries_strokes T.2.2.2))) h hQ hx hb hr rfl hlocks hS hP hD dX10_pair_16
  · replace h := jif_f hq1 h
    refine lv_iconst (v := (-1)) hx hb dX10_pair_4 (by decide) ?_
    refine lv_goto (tgt := 16) hx hb dX10_pair_5 (by decide) ?_
    exact j_iret (u := ((-1), c_runs_size, c_runs_skipped, a_runs_longer)) (rv := (fun T => T.1)) (wv := (fun T => (jw_Room_pair E q_this q_tape q_entries q_record q_page q_transcript q_planner q_runs q_chord q_outline q_entries_kinds q_entries_strokeCounts q_entries_strokes q_entries_lengths q_entries_letters q_runs_longer c_entries_size T.2.1 T.2.2.1 a_entries_strokeCounts a_entries_strokes T.2.2.2))) h hQ hx hb hr rfl hlocks hS hP hD dX10_pair_16
abbrev jw_Transcript_countOf (E : jE) (q_this q_book q_record q_page q_chord q_lasts q_behinds q_owners q_record_keys q_record_firsts q_record_entries : Nat) (c_size : Int32) (c_raws : Int32) (c_settled : Int32) (c_record_size : Int32) (c_record_readSoFar : Int32) (a_lasts : (Nat → Int32)) (a_record_entries : (Nat → Int32)) : va_W := [(q_this, .inr (9, [.ref q_book, .ref q_record, .ref q_page, .ref q_chord, .ref q_lasts, .ref q_behinds, .ref q_owners, .int c_size, .int c_raws, .int c_settled])), (q_record, .inr (6, [.ref q_book, .ref q_record_keys, .ref q_record_firsts, .ref q_record_entries, .int c_record_size, .int c_record_readSoFar])), (q_lasts, .inl (E.2.2.1, 300, .inl a_lasts)), (q_record_entries, .inl (E.2.2.1, 300, .inl a_record_entries))]
def jr_Transcript_countOf : Room := { frames := 1, cells := 0, slots := 0, locals := 21 }
set_option maxHeartbeats 4000000 in
set_option maxRecDepth 100000 in
theorem jc_Transcript_countOf (l : Launch) (E : jE) (q_this q_book q_record q_page q_chord q_lasts q_behinds q_owners q_record_keys q_record_firsts q_record_entries : Nat) (c_size : Int32) (c_raws : Int32) (c_settled : Int32) (c_record_size : Int32) (c_record_readSoFar : Int32) (a_lasts : (Nat → Int32)) (a_record_entries : (Nat → Int32)) (x1 : Int32) (N : Nat) {T : Int32} (h : jf_Transcript_countOf N x1 c_size c_record_size a_lasts a_record_entries = some T) : jMi l yX9_countOf wsX9_countOf jr_Transcript_countOf E [.ref q_this, .int x1] (jw_Transcript_countOf E q_this q_book q_record q_page q_chord q_lasts q_behinds q_owners q_record_keys q_record_firsts q_record_entries c_size c_raws c_settled c_record_size c_record_readSoFar a_lasts a_record_entries) (T) (jw_Transcript_countOf E q_this q_book q_record q_page q_chord q_lasts q_behinds q_owners q_record_keys q_record_firsts q_record_entries c_size c_raws c_settled c_record_size c_record_readSoFar a_lasts a_record_entries) := by
  refine jMi.begin (cc := cX9_countOf) (maxL := 4) (ret := (some .int)) (by decide) rfl (Nat.le_of_ble_eq_true rfl) ?_
  intro p e s m args below meth c A ls Q hQ hx hb hr hml hown hlocks hts hK hA hP hD hS hl
  replace hown : s.vm.findClass RX9 = some m.cls := hown
  replace hl : lv_has ls 4 [(0, .ref q_this), (1, .int x1)] := hl
  have hin9 : ∀ w ∈ u_ws RX9 TX9 10, w ∈ wsX9_countOf := by decide +kernel
  have hk_18 := hts (.fieldLink RX9 18 "StenoRoom$Transcript" "lasts" "[I") (by decide +kernel)
  have hk_32 := hts (.fieldLink RX9 32 "StenoRoom$Transcript" "record" "LStenoRoom$Reading;") (by decide +kernel)
  have hk_61 := hts (.fieldLink RX9 61 "StenoRoom$Transcript" "size" "I") (by decide +kernel)
  have kb32 : ∀ (k4 : Int32 → Int32 → Option (Int32)) (hk4 : ∀ (x2 : Int32) (x3 : Int32) (H : Heap) (locs : List Loc) (ls : Array Slot), k4 x2 x3 = some T → va_P E.1 vwCl (jw_Transcript_countOf E q_this q_book q_record q_page q_chord q_lasts q_behinds q_owners q_record_keys q_record_firsts q_record_entries c_size c_raws c_settled c_record_size c_record_readSoFar a_lasts a_record_entries) H → va_D A (jw_Transcript_countOf E q_this q_book q_record q_page q_chord q_lasts q_behinds q_owners q_record_keys q_record_firsts q_record_entries c_size c_raws c_settled c_record_size c_record_readSoFar a_lasts a_record_entries) → va_S A s.heap H locs → lv_has ls 4 [(0, .ref q_this), (1, .int x1), (2, .int x2), (3, .int x3)] → W p l e jr_Transcript_countOf s m args below meth c H locs 0 0 Q (F0 m 4 ls [])) (x2 : Int32) (x3 : Int32) (H : Heap) (locs : List Loc) (ls : Array Slot), jf_Transcript_countOf_b32 k4 x2 x3 = some T → va_P E.1 vwCl (jw_Transcript_countOf E q_this q_book q_record q_page q_chord q_lasts q_behinds q_owners q_record_keys q_record_firsts q_record_entries c_size c_raws c_settled c_record_size c_record_readSoFar a_lasts a_record_entries) H → va_D A (jw_Transcript_countOf E q_this q_book q_record q_page q_chord q_lasts q_behinds q_owners q_record_keys q_record_firsts q_record_entries c_size c_raws c_settled c_record_size c_record_readSoFar a_lasts a_record_entries) → va_S A s.heap H locs → lv_has ls 4 [(0, .ref q_this), (1, .int x1), (2, .int x2), (3, .int x3)] → W p l e jr_Transcript_countOf s m args below meth c H locs 0 0 Q (F0 m 32 ls []) := by
    intro k4 hk4 x2 x3 H locs ls h hP hD hS hl
    unfold jf_Transcript_countOf_b32 at h
    refine lv_iinc (v := (x3 + 1)) (lv' := [(3, .int (x3 + 1)), (0, .ref q_this), (1, .int x1), (2, .int x2)]) hx hb dX9_countOf_32 hl (k := 3) rfl rfl (by decide) rfl (fun ls hl => ?_)
    refine lv_goto (tgt := 4) hx hb dX9_countOf_35 (by decide) ?_
    exact hk4 x2 (x3 + 1) _ _ _ h hP hD hS (lv_sub hl [1, 2, 3, 0] rfl)
  have kb4 : ∀ (n : Nat) (x2 : Int32) (x3 : Int32) (H : Heap) (locs : List Loc) (ls : Array Slot), jf_Transcript_countOf_b4 x1 c_size c_record_size a_lasts a_record_entries n x2 x3 = some T → va_P E.1 vwCl (jw_Transcript_countOf E q_this q_book q_record q_page q_chord q_lasts q_behinds q_owners q_record_keys q_record_firsts q_record_entries c_size c_raws c_settled c_record_size c_record_readSoFar a_lasts a_record_entries) H → va_D A (jw_Transcript_countOf E q_this q_book q_record q_page q_chord q_lasts q_behinds q_owners q_record_keys q_record_firsts q_record_entries c_size c_raws c_settled c_record_size c_record_readSoFar a_lasts a_record_entries) → va_S A s.heap H locs → lv_has ls 4 [(0, .ref q_this), (1, .int x1), (2, .int x2), (3, .int x3)] → W p l e jr_Transcript_countOf s m args below meth c H locs 0 0 Q (F0 m 4 ls []) := by
    intro n
    induction n with
    | zero => intro x2 x3 H locs ls h; exact j_none (α := Int32) h
    | succ n ih =>
      intro x2 x3 H locs ls h hP hD hS hl
      rw [jf_Transcript_countOf_b4] at h
      refine lv_iload_n hx hb dX9_countOf_4 rfl (lv_at hl 3 rfl) ?_
      refine lv_aload_n hx hb dX9_countOf_5 rfl (lv_at hl 0 rfl) ?_
      refine va_get (D := E.1) (ci := 9) (v := .int c_size) (C := RX9) (T := TX9) (N := 10) hx hb hts hin9 hown hK.1 hP 0 rfl rfl 7 (by decide) hk_61 (fun _ h9 => h9) rfl dX9_countOf_6 ?_
      refine lv_icmp_ge (tgt := 38) hx hb dX9_countOf_9 (by decide) (fun hq9 => ?_) (fun hq9 => ?_)
      · replace h := jif_t hq9 h
        refine lv_iload_n hx hb dX9_countOf_38 rfl (lv_at hl 2 rfl) ?_
        exact j_iret (u := x2) (rv := (fun T => T)) (wv := (fun _ => (jw_Transcript_countOf E q_this q_book q_record q_page q_chord q_lasts q_behinds q_owners q_record_keys q_record_firsts q_record_entries c_size c_raws c_settled c_record_size c_record_readSoFar a_lasts a_record_entries))) h hQ hx hb hr rfl hlocks hS hP hD dX9_countOf_39
      · replace h := jif_f hq9 h
        refine lv_aload_n hx hb dX9_countOf_12 rfl (lv_at hl 0 rfl) ?_
        refine va_get (D := E.1) (ci := 9) (v := .ref q_record) (C := RX9) (T := TX9) (N := 10) hx hb hts hin9 hown hK.1 hP 0 rfl rfl 1 (by decide) hk_32 (fun _ h9 => h9) rfl dX9_countOf_13 ?_
        refine lv_aload_n hx hb dX9_countOf_16 rfl (lv_at hl 0 rfl) ?_
        refine va_get (D := E.1) (ci := 9) (v := .ref q_lasts) (C := RX9) (T := TX9) (N := 10) hx hb hts hin9 hown hK.1 hP 0 rfl rfl 4 (by decide) hk_18 (fun _ h9 => h9) rfl dX9_countOf_17 ?_
        refine lv_iload_n hx hb dX9_countOf_20 rfl (lv_at hl 3 rfl) ?_
        obtain ⟨g21, h⟩ := jga_e h
        refine va_iald hx hb hK.1 hP 2 1 rfl rfl g21 dX9_countOf_21 ?_
        obtain ⟨r22, hf22, h⟩ := jbd h
        refine j_callVi (own := RX9) (As := [.int (a_lasts x3.toNatClampNeg)]) (rest := []) hx hb hml hown hts hK hA hP hD hS (jc_Reading_entryAt l E q_record q_book q_record_keys q_record_firsts q_record_entries c_record_size c_record_readSoFar a_record_entries (a_lasts x3.toNatClampNeg) N hf22) gX9_countOf_X6_entryAt rfl ⟨rfl, rfl⟩ 1 (by decide +kernel) rfl rfl 1 6 rfl rfl [1, 3] [0, 2] [0, 2, 1, 3] rfl rfl rfl rfl rfl rfl rfl hl.1 rfl rfl dX9_countOf_22 (fun H locs hP hD hS => ?_)
        replace hP : va_P E.1 vwCl (jw_Transcript_countOf E q_this q_book q_record q_page q_chord q_lasts q_behinds q_owners q_record_keys q_record_firsts q_record_entries c_size c_raws c_settled c_record_size c_record_readSoFar a_lasts a_record_entries) H := hP
        replace hD : va_D A (jw_Transcript_countOf E q_this q_book q_record q_page q_chord q_lasts q_behinds q_owners q_record_keys q_record_firsts q_record_entries c_size c_raws c_settled c_record_size c_record_readSoFar a_lasts a_record_entries) := hD
        refine lv_iload_n hx hb dX9_countOf_25 rfl (lv_at hl 1 rfl) ?_
        refine lv_icmp_ne (tgt := 32) hx hb dX9_countOf_26 (by decide) (fun hq26 => ?_) (fun hq26 => ?_)
        · replace h := jif_f hq26 h
          exact kb32 (jf_Transcript_countOf_b4 x1 c_size c_record_size a_lasts a_record_entries n) ih  x2 x3 _ _ _ h hP hD hS (lv_sub hl [0, 1, 2, 3] rfl)
        · replace h := jif_t hq26 h
          refine lv_iinc (v := (x2 + 1)) (lv' := [(2, .int (x2 + 1)), (0, .ref q_this), (1, .int x1), (3, .int x3)]) hx hb dX9_countOf_29 hl (k := 2) rfl rfl (by decide) rfl (fun ls hl => ?_)
          exact kb32 (jf_Transcript_countOf_b4 x1 c_size c_record_size a_lasts a_record_entries n) ih  (x2 + 1) x3 _ _ _ h hP hD hS (lv_sub hl [1, 2, 0, 3] rfl)
  unfold jf_Transcript_countOf at h
  refine lv_iconst (v := 0) hx hb dX9_countOf_0 (by decide) ?_
  refine lv_istore_n (lv' := [(2, .int 0), (0, .ref q_this), (1, .int x1)]) hx hb dX9_countOf_1 rfl hl (by decide) rfl (fun ls hl => ?_)
  refine lv_iconst (v := 0) hx hb dX9_countOf_2 (by decide) ?_
  refine lv_istore_n (lv' := [(3, .int 0), (2, .int 0), (0, .ref q_this), (1, .int x1)]) hx hb dX9_countOf_3 rfl hl (by decide) rfl (fun ls hl => ?_)
  exact kb4  N 0 0 _ _ _ h hP hD hS (lv_sub hl [2, 3, 1, 0] rfl)
abbrev jw_Room_book (E : jE) (q_this q_tape q_entries q_record q_page q_transcript q_planner q_runs q_chord q_outline q_entries_kinds q_entries_strokeCounts q_entries_strokes q_entries_lengths q_entries_letters q_page_bytes q_record_keys q_record_firsts q_record_entries q_transcript_chord q_transcript_lasts q_transcript_behinds q_transcript_owners q_transcript_chord_letters : Nat) (c_entries_size : Int32) (c_page_size : Int32) (c_page_shift : Int32) (c_page_link : Int32) (c_page_lastWordLength : Int32) (c_page_lastWordVowels : Int32) (c_record_size : Int32) (c_record_readSoFar : Int32) (c_transcript_size : Int32) (c_transcript_raws : Int32) (c_transcript_settled : Int32) (c_transcript_chord_size : Int32) (a_entries_kinds : (Nat → Int32)) (a_entries_lengths : (Nat → Int32)) (a_entries_letters : (Nat → Int32)) (a_entries_strokeCounts : (Nat → Int32)) (a_entries_strokes : (Nat → Int32)) (a_page_bytes : (Nat → Int32)) (a_record_entries : (Nat → Int32)) (a_record_firsts : (Nat → Int32)) (a_record_keys : (Nat → Int32)) (a_transcript_behinds : (Nat → Int32)) (a_transcript_chord_letters : (Nat → Int32)) (a_transcript_lasts : (Nat → Int32)) (a_transcript_owners : (Nat → Int32)) : va_W := [(q_this, .inr (10, [.ref q_tape, .ref q_entries, .ref q_record, .ref q_page, .ref q_transcript, .ref q_planner, .ref q_runs, .ref q_chord, .ref q_outline])), (q_entries, .inr (0, [.ref q_entries_kinds, .ref q_entries_strokeCounts, .ref q_entries_strokes, .ref q_entries_lengths, .ref q_entries_letters, .int c_entries_size])), (q_page, .inr (4, [.ref q_entries, .ref q_page_bytes, .int c_page_size, .int c_page_shift, .int c_page_link, .int c_page_lastWordLength, .int c_page_lastWordVowels])), (q_record, .inr (6, [.ref q_entries, .ref q_record_keys, .ref q_record_firsts, .ref q_record_entries, .int c_record_size, .int c_record_readSoFar])), (q_transcript, .inr (9, [.ref q_entries, .ref q_record, .ref q_page, .ref q_transcript_chord, .ref q_transcript_lasts, .ref q_transcript_behinds, .ref q_transcript_owners, .int c_transcript_size, .int c_transcript_raws, .int c_transcript_settled])), (q_transcript_chord, .inr (2, [.ref q_transcript_chord_letters, .int c_transcript_chord_size])), (q_entries_kinds, .inl (E.2.2.1, 60, .inl a_entries_kinds)), (q_entries_lengths, .inl (E.2.2.1, 60, .inl a_entries_lengths)), (q_entries_letters, .inl (E.2.1, 960, .inl a_entries_letters)), (q_entries_strokeCounts, .inl (E.2.2.1, 60, .inl a_entries_strokeCounts)), (q_entries_strokes, .inl (E.2.2.1, 300, .inl a_entries_strokes)), (q_page_bytes, .inl (E.2.1, 6900, .inl a_page_bytes)), (q_record_entries, .inl (E.2.2.1, 300, .inl a_record_entries)), (q_record_firsts, .inl (E.2.2.1, 300, .inl a_record_firsts)), (q_record_keys, .inl (E.2.2.1, 300, .inl a_record_keys)), (q_transcript_behinds, .inl (E.2.2.1, 300, .inl a_transcript_behinds)), (q_transcript_chord_letters, .inl (E.2.1, 22, .inl a_transcript_chord_letters)), (q_transcript_lasts, .inl (E.2.2.1, 300, .inl a_transcript_lasts)), (q_transcript_owners, .inl (E.2.2.1, 300, .inl a_transcript_owners))]
def jr_Room_book : Room := { frames := 7, cells := 0, slots := 0, locals := 186 }
set_option maxHeartbeats 4000000 in
set_option maxRecDepth 100000 in
theorem jc_Room_book (l : Launch) (E : jE) (q_this q_tape q_entries q_record q_page q_transcript q_planner q_runs q_chord q_outline q_entries_kinds q_entries_strokeCounts q_entries_strokes q_entries_lengths q_entries_letters q_page_bytes q_record_keys q_record_firsts q_record_entries q_transcript_chord q_transcript_lasts q_transcript_behinds q_transcript_owners q_transcript_chord_letters : Nat) (c_entries_size : Int32) (c_page_size : Int32) (c_page_shift : Int32) (c_page_link : Int32) (c_page_lastWordLength : Int32) (c_page_lastWordVowels : Int32) (c_record_size : Int32) (c_record_readSoFar : Int32) (c_transcript_size : Int32) (c_transcript_raws : Int32) (c_transcript_settled : Int32) (c_transcript_chord_size : Int32) (a_entries_kinds : (Nat → Int32)) (a_entries_lengths : (Nat → Int32)) (a_entries_letters : (Nat → Int32)) (a_entries_strokeCounts : (Nat → Int32)) (a_entries_strokes : (Nat → Int32)) (a_page_bytes : (Nat → Int32)) (a_record_entries : (Nat → Int32)) (a_record_firsts : (Nat → Int32)) (a_record_keys : (Nat → Int32)) (a_transcript_behinds : (Nat → Int32)) (a_transcript_chord_letters : (Nat → Int32)) (a_transcript_lasts : (Nat → Int32)) (a_transcript_owners : (Nat → Int32)) (x1 : Int32) (x2 : Int32) (N : Nat) {T : Int32 × Int32 × Int32 × Int32 × Int32 × Int32 × Int32 × Int32 × Int32 × Int32 × Int32 × (Nat → Int32) × (Nat → Int32) × (Nat → Int32) × (Nat → Int32) × (Nat → Int32) × (Nat → Int32) × (Nat → Int32)} (h : jf_Room_book N x1 x2 c_entries_size c_record_size a_entries_kinds a_entries_lengths a_entries_letters a_entries_strokeCounts a_entries_strokes a_record_keys c_page_size c_page_shift c_page_link c_page_lastWordLength c_page_lastWordVowels c_record_readSoFar c_transcript_size c_transcript_raws c_transcript_settled c_transcript_chord_size a_page_bytes a_record_entries a_record_firsts a_transcript_behinds a_transcript_chord_letters a_transcript_lasts a_transcript_owners = some T) : jMi l yX10_book wsX10_book jr_Room_book E [.ref q_this, .int x1, .int x2] (jw_Room_book E q_this q_tape q_entries q_record q_page q_transcript q_planner q_runs q_chord q_outline q_entries_kinds q_entries_strokeCounts q_entries_strokes q_entries_lengths q_entries_letters q_page_bytes q_record_keys q_record_firsts q_record_entries q_transcript_chord q_transcript_lasts q_transcript_behinds q_transcript_owners q_transcript_chord_letters c_entries_size c_page_size c_page_shift c_page_link c_page_lastWordLength c_page_lastWordVowels c_record_size c_record_readSoFar c_transcript_size c_transcript_raws c_transcript_settled c_transcript_chord_size a_entries_kinds a_entries_lengths a_entries_letters a_entries_strokeCounts a_entries_strokes a_page_bytes a_record_entries a_record_firsts a_record_keys a_transcript_behinds a_transcript_chord_letters a_transcript_lasts a_transcript_owners) (T.1) (jw_Room_book E q_this q_tape q_entries q_record q_page q_transcript q_planner q_runs q_chord q_outline q_entries_kinds q_entries_strokeCounts q_entries_strokes q_entries_lengths q_entries_letters q_page_bytes q_record_keys q_record_firsts q_record_entries q_transcript_chord q_transcript_lasts q_transcript_behinds q_transcript_owners q_transcript_chord_letters c_entries_size T.2.1 T.2.2.1 T.2.2.2.1 T.2.2.2.2.1 T.2.2.2.2.2.1 c_record_size T.2.2.2.2.2.2.1 T.2.2.2.2.2.2.2.1 T.2.2.2.2.2.2.2.2.1 T.2.2.2.2.2.2.2.2.2.1 T.2.2.2.2.2.2.2.2.2.2.1 a_entries_kinds a_entries_lengths a_entries_letters a_entries_strokeCounts a_entries_strokes T.2.2.2.2.2.2.2.2.2.2.2.1 T.2.2.2.2.2.2.2.2.2.2.2.2.1 T.2.2.2.2.2.2.2.2.2.2.2.2.2.1 a_record_keys T.2.2.2.2.2.2.2.2.2.2.2.2.2.2.1 T.2.2.2.2.2.2.2.2.2.2.2.2.2.2.2.1 T.2.2.2.2.2.2.2.2.2.2.2.2.2.2.2.2.1 T.2.2.2.2.2.2.2.2.2.2.2.2.2.2.2.2.2) := by
  refine jMi.begin (cc := cX10_book) (maxL := 3) (ret := (some .int)) (by decide) rfl (Nat.le_of_ble_eq_true rfl) ?_
  intro p e s m args below meth c A ls Q hQ hx hb hr hml hown hlocks hts hK hA hP hD hS hl
  replace hown : s.vm.findClass RX10 = some m.cls := hown
  replace hl : lv_has ls 3 [(0, .ref q_this), (1, .int x1), (2, .int x2)] := hl
  have hin10 : ∀ w ∈ u_ws RX10 TX10 9, w ∈ wsX10_book := by decide +kernel
  have hk_19 := hts (.fieldLink RX10 19 "StenoRoom" "entries" "LStenoRoom$Book;") (by decide +kernel)
  have hk_46 := hts (.fieldLink RX10 46 "StenoRoom" "transcript" "LStenoRoom$Transcript;") (by decide +kernel)
  unfold jf_Room_book at h
  refine lv_aload_n hx hb dX10_book_0 rfl (lv_at hl 0 rfl) ?_
  refine va_get (D := E.1) (ci := 10) (v := .ref q_entries) (C := RX10) (T := TX10) (N := 9) hx hb hts hin10 hown hK.1 hP 0 rfl rfl 1 (by decide) hk_19 (fun _ h9 => h9) rfl dX10_book_1 ?_
  refine lv_iload_n hx hb dX10_book_4 rfl (lv_at hl 1 rfl) ?_
  obtain ⟨r5, hf5, h⟩ := jbd h
  refine j_callVi (own := RX10) (As := [.int x1]) (rest := []) hx hb hml hown hts hK hA hP hD hS (jc_Book_has l E q_entries q_entries_kinds q_entries_strokeCounts q_entries_strokes q_entries_lengths q_entries_letters c_entries_size x1 N hf5) gX10_book_X0_has rfl ⟨rfl, rfl⟩ 1 (by decide +kernel) rfl rfl 1 0 rfl rfl [1] [0, 2, 3, 4, 5, 6, 7, 8, 9, 10, 11, 12, 13, 14, 15, 16, 17, 18] [0, 18, 1, 2, 3, 4, 5, 6, 7, 8, 9, 10, 11, 12, 13, 14, 15, 16, 17] rfl rfl rfl rfl rfl rfl rfl hl.1 rfl rfl dX10_book_5 (fun H locs hP hD hS => ?_)
  replace hP : va_P E.1 vwCl (jw_Room_book E q_this q_tape q_entries q_record q_page q_transcript q_planner q_runs q_chord q_outline q_entries_kinds q_entries_strokeCounts q_entries_strokes q_entries_lengths q_entries_letters q_page_bytes q_record_keys q_record_firsts q_record_entries q_transcript_chord q_transcript_lasts q_transcript_behinds q_transcript_owners q_transcript_chord_letters c_entries_size c_page_size c_page_shift c_page_link c_page_lastWordLength c_page_lastWordVowels c_record_size c_record_readSoFar c_transcript_size c_transcript_raws c_transcript_settled c_transcript_chord_size a_entries_kinds a_entries_lengths a_entries_letters a_entries_strokeCounts a_entries_strokes a_page_bytes a_record_entries a_record_firsts a_record_keys a_transcript_behinds a_transcript_chord_letters a_transcript_lasts a_transcript_owners) H := hP
  replace hD : va_D A (jw_Room_book E q_this q_tape q_entries q_record q_page q_transcript q_planner q_runs q_chord q_outline q_entries_kinds q_entries_strokeCounts q_entries_strokes q_entries_lengths q_entries_letters q_page_bytes q_record_keys q_record_firsts q_record_entries q_transcript_chord q_transcript_lasts q_transcript_behinds q_transcript_owners q_transcript_chord_letters c_entries_size c_page_size c_page_shift c_page_link c_page_lastWordLength c_page_lastWordVowels c_record_size c_record_readSoFar c_transcript_size c_transcript_raws c_transcript_settled c_transcript_chord_size a_entries_kinds a_entries_lengths a_entries_letters a_entries_strokeCounts a_entries_strokes a_page_bytes a_record_entries a_record_firsts a_record_keys a_transcript_behinds a_transcript_chord_letters a_transcript_lasts a_transcript_owners) := hD
  refine lv_if_ne (tgt := 13) hx hb dX10_book_8 (by decide) (fun hq8 => ?_) (fun hq8 => ?_)
  · replace h := jif_f hq8 h
    refine lv_iload_n hx hb dX10_book_13 rfl (lv_at hl 2 rfl) ?_
    refine lv_bipush (v := 20) hx hb dX10_book_14 (by decide) ?_
    refine lv_icmp_lt (tgt := 32) hx hb dX10_book_16 (by decide) (fun hq16 => ?_) (fun hq16 => ?_)
    · replace h := jif_t hq16 h
      refine lv_iload_n hx hb dX10_book_32 rfl (lv_at hl 2 rfl) ?_
      refine lv_bipush (v := 10) hx hb dX10_book_33 (by decide) ?_
      refine lv_icmp_lt (tgt := 51) hx hb dX10_book_35 (by decide) (fun hq35 => ?_) (fun hq35 => ?_)
      · replace h := jif_t hq35 h
        refine lv_iload_n hx hb dX10_book_51 rfl (lv_at hl 2 rfl) ?_
        by_cases hq52_0 : x2 = 0
        · replace h := jif_t hq52_0 h
          refine lv_tableIn (off := 32) (tgt := 84) hx hb dX10_book_52 (by rw [hq52_0]; decide) (by rw [hq52_0]; decide) (by rw [hq52_0]; rfl) (by decide) ?_
          refine lv_aload_n hx hb dX10_book_84 rfl (lv_at hl 0 rfl) ?_
          refine va_get (D := E.1) (ci := 10) (v := .ref q_entries) (C := RX10) (T := TX10) (N := 9) hx hb hts hin10 hown hK.1 hP 0 rfl rfl 1 (by decide) hk_19 (fun _ h9 => h9) rfl dX10_book_85 ?_
          refine lv_iload_n hx hb dX10_book_88 rfl (lv_at hl 1 rfl) ?_
          obtain ⟨r89, hf89, h⟩ := jbd h
          refine j_callVi (own := RX10) (As := [.int x1]) (rest := []) hx hb hml hown hts hK hA hP hD hS (jc_Book_kindOf l E q_entries q_entries_kinds q_entries_strokeCounts q_entries_strokes q_entries_lengths q_entries_letters c_entries_size a_entries_kinds x1 N hf89) gX10_book_X0_kindOf rfl ⟨rfl, rfl⟩ 1 (by decide +kernel) rfl rfl 1 0 rfl rfl [1, 6] [0, 2, 3, 4, 5, 7, 8, 9, 10, 11, 12, 13, 14, 15, 16, 17, 18] [0, 17, 1, 2, 3, 4, 18, 5, 6, 7, 8, 9, 10, 11, 12, 13, 14, 15, 16] rfl rfl rfl rfl rfl rfl rfl hl.1 rfl rfl dX10_book_89 (fun H locs hP hD hS => ?_)
          replace hP : va_P E.1 vwCl (jw_Room_book E q_this q_tape q_entries q_record q_page q_transcript q_planner q_runs q_chord q_outline q_entries_kinds q_entries_strokeCounts q_entries_strokes q_entries_lengths q_entries_letters q_page_bytes q_record_keys q_record_firsts q_record_entries q_transcript_chord q_transcript_lasts q_transcript_behinds q_transcript_owners q_transcript_chord_letters c_entries_size c_page_size c_page_shift c_page_link c_page_lastWordLength c_page_lastWordVowels c_record_size c_record_readSoFar c_transcript_size c_transcript_raws c_transcript_settled c_transcript_chord_size a_entries_kinds a_entries_lengths a_entries_letters a_entries_strokeCounts a_entries_strokes a_page_bytes a_record_entries a_record_firsts a_record_keys a_transcript_behinds a_transcript_chord_letters a_transcript_lasts a_transcript_owners) H := hP
          replace hD : va_D A (jw_Room_book E q_this q_tape q_entries q_record q_page q_transcript q_planner q_runs q_chord q_outline q_entries_kinds q_entries_strokeCounts q_entries_strokes q_entries_lengths q_entries_letters q_page_bytes q_record_keys q_record_firsts q_record_entries q_transcript_chord q_transcript_lasts q_transcript_behinds q_transcript_owners q_transcript_chord_letters c_entries_size c_page_size c_page_shift c_page_link c_page_lastWordLength c_page_lastWordVowels c_record_size c_record_readSoFar c_transcript_size c_transcript_raws c_transcript_settled c_transcript_chord_size a_entries_kinds a_entries_lengths a_entries_letters a_entries_strokeCounts a_entries_strokes a_page_bytes a_record_entries a_record_firsts a_record_keys a_transcript_behinds a_transcript_chord_letters a_transcript_lasts a_transcript_owners) := hD
          exact j_iret (u := (r89, c_page_size, c_page_shift, c_page_link, c_page_lastWordLength, c_page_lastWordVowels, c_record_readSoFar, c_transcript_size, c_transcript_raws, c_transcript_settled, c_transcript_chord_size, a_page_bytes, a_record_entries, a_record_firsts, a_transcript_behinds, a_transcript_chord_letters, a_transcript_lasts, a_transcript_owners)) (rv := (fun T => T.1)) (wv := (fun T => (jw_Room_book E q_this q_tape q_entries q_record q_page q_transcript q_planner q_runs q_chord q_outline q_entries_kinds q_entries_strokeCounts q_entries_strokes q_entries_lengths q_entries_letters q_page_bytes q_record_keys q_record_firsts q_record_entries q_transcript_chord q_transcript_lasts q_transcript_behinds q_transcript_owners q_transcript_chord_letters c_entries_size T.2.1 T.2.2.1 T.2.2.2.1 T.2.2.2.2.1 T.2.2.2.2.2.1 c_record_size T.2.2.2.2.2.2.1 T.2.2.2.2.2.2.2.1 T.2.2.2.2.2.2.2.2.1 T.2.2.2.2.2.2.2.2.2.1 T.2.2.2.2.2.2.2.2.2.2.1 a_entries_kinds a_entries_lengths a_entries_letters a_entries_strokeCounts a_entries_strokes T.2.2.2.2.2.2.2.2.2.2.2.1 T.2.2.2.2.2.2.2.2.2.2.2.2.1 T.2.2.2.2.2.2.2.2.2.2.2.2.2.1 a_record_keys T.2.2.2.2.2.2.2.2.2.2.2.2.2.2.1 T.2.2.2.2.2.2.2.2.2.2.2.2.2.2.2.1 T.2.2.2.2.2.2.2.2.2.2.2.2.2.2.2.2.1 T.2.2.2.2.2.2.2.2.2.2.2.2.2.2.2.2.2))) h hQ hx hb hr rfl hlocks hS hP hD dX10_book_92
        replace h := jif_f hq52_0 h
        by_cases hq52_1 : x2 = 1
        · replace h := jif_t hq52_1 h
          refine lv_tableIn (off := 41) (tgt := 93) hx hb dX10_book_52 (by rw [hq52_1]; decide) (by rw [hq52_1]; decide) (by rw [hq52_1]; rfl) (by decide) ?_
          refine lv_aload_n hx hb dX10_book_93 rfl (lv_at hl 0 rfl) ?_
          refine va_get (D := E.1) (ci := 10) (v := .ref q_entries) (C := RX10) (T := TX10) (N := 9) hx hb hts hin10 hown hK.1 hP 0 rfl rfl 1 (by decide) hk_19 (fun _ h9 => h9) rfl dX10_book_94 ?_
          refine lv_iload_n hx hb dX10_book_97 rfl (lv_at hl 1 rfl) ?_
          obtain ⟨r98, hf98, h⟩ := jbd h
          refine j_callVi (own := RX10) (As := [.int x1]) (rest := []) hx hb hml hown hts hK hA hP hD hS (jc_Book_strokesOf l E q_entries q_entries_kinds q_entries_strokeCounts q_entries_strokes q_entries_lengths q_entries_letters c_entries_size a_entries_strokeCounts x1 N hf98) gX10_book_X0_strokesOf rfl ⟨rfl, rfl⟩ 1 (by decide +kernel) rfl rfl 1 0 rfl rfl [1, 9] [0, 2, 3, 4, 5, 6, 7, 8, 10, 11, 12, 13, 14, 15, 16, 17, 18] [0, 17, 1, 2, 3, 4, 5, 6, 7, 18, 8, 9, 10, 11, 12, 13, 14, 15, 16] rfl rfl rfl rfl rfl rfl rfl hl.1 rfl rfl dX10_book_98 (fun H locs hP hD hS => ?_)
          replace hP : va_P E.1 vwCl (jw_Room_book E q_this q_tape q_entries q_record q_page q_transcript q_planner q_runs q_chord q_outline q_entries_kinds q_entries_strokeCounts q_entries_strokes q_entries_lengths q_entries_letters q_page_bytes q_record_keys q_record_firsts q_record_entries q_transcript_chord q_transcript_lasts q_transcript_behinds q_transcript_owners q_transcript_chord_letters c_entries_size c_page_size c_page_shift c_page_link c_page_lastWordLength c_page_lastWordVowels c_record_size c_record_readSoFar c_transcript_size c_transcript_raws c_transcript_settled c_transcript_chord_size a_entries_kinds a_entries_lengths a_entries_letters a_entries_strokeCounts a_entries_strokes a_page_bytes a_record_entries a_record_firsts a_record_keys a_transcript_behinds a_transcript_chord_letters a_transcript_lasts a_transcript_owners) H := hP
          replace hD : va_D A (jw_Room_book E q_this q_tape q_entries q_record q_page q_transcript q_planner q_runs q_chord q_outline q_entries_kinds q_entries_strokeCounts q_entries_strokes q_entries_lengths q_entries_letters q_page_bytes q_record_keys q_record_firsts q_record_entries q_transcript_chord q_transcript_lasts q_transcript_behinds q_transcript_owners q_transcript_chord_letters c_entries_size c_page_size c_page_shift c_page_link c_page_lastWordLength c_page_lastWordVowels c_record_size c_record_readSoFar c_transcript_size c_transcript_raws c_transcript_settled c_transcript_chord_size a_entries_kinds a_entries_lengths a_entries_letters a_entries_strokeCounts a_entries_strokes a_page_bytes a_record_entries a_record_firsts a_record_keys a_transcript_behinds a_transcript_chord_letters a_transcript_lasts a_transcript_owners) := hD
          exact j_iret (u := (r98, c_page_size, c_page_shift, c_page_link, c_page_lastWordLength, c_page_lastWordVowels, c_record_readSoFar, c_transcript_size, c_transcript_raws, c_transcript_settled, c_transcript_chord_size, a_page_bytes, a_record_entries, a_record_firsts, a_transcript_behinds, a_transcript_chord_letters, a_transcript_lasts, a_transcript_owners)) (rv := (fun T => T.1)) (wv := (fun T => (jw_Room_book E q_this q_tape q_entries q_record q_page q_transcript q_planner q_runs q_chord q_outline q_entries_kinds q_entries_strokeCounts q_entries_strokes q_entries_lengths q_entries_letters q_page_bytes q_record_keys q_record_firsts q_record_entries q_transcript_chord q_transcript_lasts q_transcript_behinds q_transcript_owners q_transcript_chord_letters c_entries_size T.2.1 T.2.2.1 T.2.2.2.1 T.2.2.2.2.1 T.2.2.2.2.2.1 c_record_size T.2.2.2.2.2.2.1 T.2.2.2.2.2.2.2.1 T.2.2.2.2.2.2.2.2.1 T.2.2.2.2.2.2.2.2.2.1 T.2.2.2.2.2.2.2.2.2.2.1 a_entries_kinds a_entries_lengths a_entries_letters a_entries_strokeCounts a_entries_strokes T.2.2.2.2.2.2.2.2.2.2.2.1 T.2.2.2.2.2.2.2.2.2.2.2.2.1 T.2.2.2.2.2.2.2.2.2.2.2.2.2.1 a_record_keys T.2.2.2.2.2.2.2.2.2.2.2.2.2.2.1 T.2.2.2.2.2.2.2.2.2.2.2.2.2.2.2.1 T.2.2.2.2.2.2.2.2.2.2.2.2.2.2.2.2.1 T.2.2.2.2.2.2.2.2.2.2.2.2.2.2.2.2.2))) h hQ hx hb hr rfl hlocks hS hP hD dX10_book_101
        replace h := jif_f hq52_1 h
        by_cases hq52_2 : x2 = 2
        · replace h := jif_t hq52_2 h
          refine lv_tableIn (off := 50) (tgt := 102) hx hb dX10_book_52 (by rw [hq52_2]; decide) (by rw [hq52_2]; decide) (by rw [hq52_2]; rfl) (by decide) ?_
          refine lv_aload_n hx hb dX10_book_102 rfl (lv_at hl 0 rfl) ?_
          refine va_get (D := E.1) (ci := 10) (v := .ref q_entries) (C := RX10) (T := TX10) (N := 9) hx hb hts hin10 hown hK.1 hP 0 rfl rfl 1 (by decide) hk_19 (fun _ h9 => h9) rfl dX10_book_103 ?_
          refine lv_iload_n hx hb dX10_book_106 rfl (lv_at hl 1 rfl) ?_
          obtain ⟨r107, hf107, h⟩ := jbd h
          refine j_callVi (own := RX10) (As := [.int x1]) (rest := []) hx hb hml hown hts hK hA hP hD hS (jc_Book_lengthOf l E q_entries q_entries_kinds q_entries_strokeCounts q_entries_strokes q_entries_lengths q_entries_letters c_entries_size a_entries_lengths x1 N hf107) gX10_book_X0_lengthOf rfl ⟨rfl, rfl⟩ 1 (by decide +kernel) rfl rfl 1 0 rfl rfl [1, 7] [0, 2, 3, 4, 5, 6, 8, 9, 10, 11, 12, 13, 14, 15, 16, 17, 18] [0, 17, 1, 2, 3, 4, 5, 18, 6, 7, 8, 9, 10, 11, 12, 13, 14, 15, 16] rfl rfl rfl rfl rfl rfl rfl hl.1 rfl rfl dX10_book_107 (fun H locs hP hD hS => ?_)
          replace hP : va_P E.1 vwCl (jw_Room_book E q_this q_tape q_entries q_record q_page q_transcript q_planner q_runs q_chord q_outline q_entries_kinds q_entries_strokeCounts q_entries_strokes q_entries_lengths q_entries_letters q_page_bytes q_record_keys q_record_firsts q_record_entries q_transcript_chord q_transcript_lasts q_transcript_behinds q_transcript_owners q_transcript_chord_letters c_entries_size c_page_size c_page_shift c_page_link c_page_lastWordLength c_page_lastWordVowels c_record_size c_record_readSoFar c_transcript_size c_transcript_raws c_transcript_settled c_transcript_chord_size a_entries_kinds a_entries_lengths a_entries_letters a_entries_strokeCounts a_entries_strokes a_page_bytes a_record_entries a_record_firsts a_record_keys a_transcript_behinds a_transcript_chord_letters a_transcript_lasts a_transcript_owners) H := hP
          replace hD : va_D A (jw_Room_book E q_this q_tape q_entries q_record q_page q_transcript q_planner q_runs q_chord q_outline q_entries_kinds q_entries_strokeCounts q_entries_strokes q_entries_lengths q_entries_letters q_page_bytes q_record_keys q_record_firsts q_record_entries q_transcript_chord q_transcript_lasts q_transcript_behinds q_transcript_owners q_transcript_chord_letters c_entries_size c_page_size c_page_shift c_page_link c_page_lastWordLength c_page_lastWordVowels c_record_size c_record_readSoFar c_transcript_size c_transcript_raws c_transcript_settled c_transcript_chord_size a_entries_kinds a_entries_lengths a_entries_letters a_entries_strokeCounts a_entries_strokes a_page_bytes a_record_entries a_record_firsts a_record_keys a_transcript_behinds a_transcript_chord_letters a_transcript_lasts a_transcript_owners) := hD
          exact j_iret (u := (r107, c_page_size, c_page_shift, c_page_link, c_page_lastWordLength, c_page_lastWordVowels, c_record_readSoFar, c_transcript_size, c_transcript_raws, c_transcript_settled, c_transcript_chord_size, a_page_bytes, a_record_entries, a_record_firsts, a_transcript_behinds, a_transcript_chord_letters, a_transcript_lasts, a_transcript_owners)) (rv := (fun T => T.1)) (wv := (fun T => (jw_Room_book E q_this q_tape q_entries q_record q_page q_transcript q_planner q_runs q_chord q_outline q_entries_kinds q_entries_strokeCounts q_entries_strokes q_entries_lengths q_entries_letters q_page_bytes q_record_keys q_record_firsts q_record_entries q_transcript_chord q_transcript_lasts q_transcript_behinds q_transcript_owners q_transcript_chord_letters c_entries_size T.2.1 T.2.2.1 T.2.2.2.1 T.2.2.2.2.1 T.2.2.2.2.2.1 c_record_size T.2.2.2.2.2.2.1 T.2.2.2.2.2.2.2.1 T.2.2.2.2.2.2.2.2.1 T.2.2.2.2.2.2.2.2.2.1 T.2.2.2.2.2.2.2.2.2.2.1 a_entries_kinds a_entries_lengths a_entries_letters a_entries_strokeCounts a_entries_strokes T.2.2.2.2.2.2.2.2.2.2.2.1 T.2.2.2.2.2.2.2.2.2.2.2.2.1 T.2.2.2.2.2.2.2.2.2.2.2.2.2.1 a_record_keys T.2.2.2.2.2.2.2.2.2.2.2.2.2.2.1 T.2.2.2.2.2.2.2.2.2.2.2.2.2.2.2.1 T.2.2.2.2.2.2.2.2.2.2.2.2.2.2.2.2.1 T.2.2.2.2.2.2.2.2.2.2.2.2.2.2.2.2.2))) h hQ hx hb hr rfl hlocks hS hP hD dX10_book_110
        replace h := jif_f hq52_2 h
        by_cases hq52_3 : x2 = 3
        · replace h := jif_t hq52_3 h
          refine lv_tableIn (off := 59) (tgt := 111) hx hb dX10_book_52 (by rw [hq52_3]; decide) (by rw [hq52_3]; decide) (by rw [hq52_3]; rfl) (by decide) ?_
          refine lv_aload_n hx hb dX10_book_111 rfl (lv_at hl 0 rfl) ?_
          refine va_get (D := E.1) (ci := 10) (v := .ref q_transcript) (C := RX10) (T := TX10) (N := 9) hx hb hts hin10 hown hK.1 hP 0 rfl rfl 4 (by decide) hk_46 (fun _ h9 => h9) rfl dX10_book_112 ?_
          obtain ⟨⟨c_transcript_size_115, c_transcript_raws_115, c_transcript_settled_115, c_transcript_chord_size_115, c_page_size_115, c_page_shift_115, c_page_link_115, c_page_lastWordLength_115, c_page_lastWordVowels_115, c_record_readSoFar_115, a_transcript_behinds_115, a_transcript_chord_letters_115, a_transcript_lasts_115, a_transcript_owners_115, a_page_bytes_115, a_record_entries_115, a_record_firsts_115⟩, hf115, h⟩ := jbd h
          refine j_callVv (own := RX10) (As := []) (rest := []) hx hb hml hown hts hK hA hP hD hS (jc_Transcript_settle l E q_transcript q_entries q_record q_page q_transcript_chord q_transcript_lasts q_transcript_behinds q_transcript_owners q_entries_kinds q_entries_strokeCounts q_entries_strokes q_entries_lengths q_entries_letters q_transcript_chord_letters q_page_bytes q_record_keys q_record_firsts q_record_entries c_transcript_size c_transcript_raws c_transcript_settled c_entries_size c_transcript_chord_size c_page_size c_page_shift c_page_link c_page_lastWordLength c_page_lastWordVowels c_record_size c_record_readSoFar a_transcript_behinds a_entries_kinds a_entries_lengths a_entries_letters a_entries_strokeCounts a_entries_strokes a_transcript_chord_letters a_transcript_lasts a_transcript_owners a_page_bytes a_record_entries a_record_firsts a_record_keys N hf115) gX10_book_X9_settle rfl ⟨rfl, rfl⟩ 0 (by decide +kernel) rfl rfl 4 9 rfl rfl [4, 1, 5, 2, 3, 15, 6, 7, 8, 9, 10, 16, 17, 18, 11, 12, 13, 14] [0] [0, 2, 4, 5, 1, 3, 7, 8, 9, 10, 11, 15, 16, 17, 18, 6, 12, 13, 14] rfl rfl rfl rfl rfl rfl rfl hl.1 rfl rfl dX10_book_115 (fun H locs hP hD hS => ?_)
          replace hP : va_P E.1 vwCl (jw_Room_book E q_this q_tape q_entries q_record q_page q_transcript q_planner q_runs q_chord q_outline q_entries_kinds q_entries_strokeCounts q_entries_strokes q_entries_lengths q_entries_letters q_page_bytes q_record_keys q_record_firsts q_record_entries q_transcript_chord q_transcript_lasts q_transcript_behinds q_transcript_owners q_transcript_chord_letters c_entries_size c_page_size_115 c_page_shift_115 c_page_link_115 c_page_lastWordLength_115 c_page_lastWordVowels_115 c_record_size c_record_readSoFar_115 c_transcript_size_115 c_transcript_raws_115 c_transcript_settled_115 c_transcript_chord_size_115 a_entries_kinds a_entries_lengths a_entries_letters a_entries_strokeCounts a_entries_strokes a_page_bytes_115 a_record_entries_115 a_record_firsts_115 a_record_keys a_transcript_behinds_115 a_transcript_chord_letters_115 a_transcript_lasts_115 a_transcript_owners_115) H := hP
          replace hD : va_D A (jw_Room_book E q_this q_tape q_entries q_record q_page q_transcript q_planner q_runs q_chord q_outline q_entries_kinds q_entries_strokeCounts q_entries_strokes q_entries_lengths q_entries_letters q_page_bytes q_record_keys q_record_firsts q_record_entries q_transcript_chord q_transcript_lasts q_transcript_behinds q_transcript_owners q_transcript_chord_letters c_entries_size c_page_size_115 c_page_shift_115 c_page_link_115 c_page_lastWordLength_115 c_page_lastWordVowels_115 c_record_size c_record_readSoFar_115 c_transcript_size_115 c_transcript_raws_115 c_transcript_settled_115 c_transcript_chord_size_115 a_entries_kinds a_entries_lengths a_entries_letters a_entries_strokeCounts a_entries_strokes a_page_bytes_115 a_record_entries_115 a_record_firsts_115 a_record_keys a_transcript_behinds_115 a_transcript_chord_letters_115 a_transcript_lasts_115 a_transcript_owners_115) := hD
          refine lv_aload_n hx hb dX10_book_118 rfl (lv_at hl 0 rfl) ?_
          refine va_get (D := E.1) (ci := 10) (v := .ref q_transcript) (C := RX10) (T := TX10) (N := 9) hx hb hts hin10 hown hK.1 hP 0 rfl rfl 4 (by decide) hk_46 (fun _ h9 => h9) rfl dX10_book_119 ?_
          refine lv_iload_n hx hb dX10_book_122 rfl (lv_at hl 1 rfl) ?_
          obtain ⟨r123, hf123, h⟩ := jbd h
          refine j_callVi (own := RX10) (As := [.int x1]) (rest := []) hx hb hml hown hts hK hA hP hD hS (jc_Transcript_countOf l E q_transcript q_entries q_record q_page q_transcript_chord q_transcript_lasts q_transcript_behinds q_transcript_owners q_record_keys q_record_firsts q_record_entries c_transcript_size_115 c_transcript_raws_115 c_transcript_settled_115 c_record_size c_record_readSoFar_115 a_transcript_lasts_115 a_record_entries_115 x1 N hf123) gX10_book_X9_countOf rfl ⟨rfl, rfl⟩ 1 (by decide +kernel) rfl rfl 4 9 rfl rfl [4, 3, 17, 12] [0, 1, 2, 5, 6, 7, 8, 9, 10, 11, 13, 14, 15, 16, 18] [0, 1, 2, 16, 15, 3, 4, 5, 6, 7, 8, 9, 18, 10, 11, 12, 13, 17, 14] rfl rfl rfl rfl rfl rfl rfl hl.1 rfl rfl dX10_book_123 (fun H locs hP hD hS => ?_)
          replace hP : va_P E.1 vwCl (jw_Room_book E q_this q_tape q_entries q_record q_page q_transcript q_planner q_runs q_chord q_outline q_entries_kinds q_entries_strokeCounts q_entries_strokes q_entries_lengths q_entries_letters q_page_bytes q_record_keys q_record_firsts q_record_entries q_transcript_chord q_transcript_lasts q_transcript_behinds q_transcript_owners q_transcript_chord_letters c_entries_size c_page_size_115 c_page_shift_115 c_page_link_115 c_page_lastWordLength_115 c_page_lastWordVowels_115 c_record_size c_record_readSoFar_115 c_transcript_size_115 c_transcript_raws_115 c_transcript_settled_115 c_transcript_chord_size_115 a_entries_kinds a_entries_lengths a_entries_letters a_entries_strokeCounts a_entries_strokes a_page_bytes_115 a_record_entries_115 a_record_firsts_115 a_record_keys a_transcript_behinds_115 a_transcript_chord_letters_115 a_transcript_lasts_115 a_transcript_owners_115) H := hP
          replace hD : va_D A (jw_Room_book E q_this q_tape q_entries q_record q_page q_transcript q_planner q_runs q_chord q_outline q_entries_kinds q_entries_strokeCounts q_entries_strokes q_entries_lengths q_entries_letters q_page_bytes q_record_keys q_record_firsts q_record_entries q_transcript_chord q_transcript_lasts q_transcript_behinds q_transcript_owners q_transcript_chord_letters c_entries_size c_page_size_115 c_page_shift_115 c_page_link_115 c_page_lastWordLength_115 c_page_lastWordVowels_115 c_record_size c_record_readSoFar_115 c_transcript_size_115 c_transcript_raws_115 c_transcript_settled_115 c_transcript_chord_size_115 a_entries_kinds a_entries_lengths a_entries_letters a_entries_strokeCounts a_entries_strokes a_page_bytes_115 a_record_entries_115 a_record_firsts_115 a_record_keys a_transcript_behinds_115 a_transcript_chord_letters_115 a_transcript_lasts_115 a_transcript_owners_115) := hD
          exact j_iret (u := (r123, c_page_size_115, c_page_shift_115, c_page_link_115, c_page_lastWordLength_115, c_page_lastWordVowels_115, c_record_readSoFar_115, c_transcript_size_115, c_transcript_raws_115, c_transcript_settled_115, c_transcript_chord_size_115, a_page_bytes_115, a_record_entries_115, a_record_firsts_115, a_transcript_behinds_115, a_transcript_chord_letters_115, a_transcript_lasts_115, a_transcript_owners_115)) (rv := (fun T => T.1)) (wv := (fun T => (jw_Room_book E q_this q_tape q_entries q_record q_page q_transcript q_planner q_runs q_chord q_outline q_entries_kinds q_entries_strokeCounts q_entries_strokes q_entries_lengths q_entries_letters q_page_bytes q_record_keys q_record_firsts q_record_entries q_transcript_chord q_transcript_lasts q_transcript_behinds q_transcript_owners q_transcript_chord_letters c_entries_size T.2.1 T.2.2.1 T.2.2.2.1 T.2.2.2.2.1 T.2.2.2.2.2.1 c_record_size T.2.2.2.2.2.2.1 T.2.2.2.2.2.2.2.1 T.2.2.2.2.2.2.2.2.1 T.2.2.2.2.2.2.2.2.2.1 T.2.2.2.2.2.2.2.2.2.2.1 a_entries_kinds a_entries_lengths a_entries_letters a_entries_strokeCounts a_entries_strokes T.2.2.2.2.2.2.2.2.2.2.2.1 T.2.2.2.2.2.2.2.2.2.2.2.2.1 T.2.2.2.2.2.2.2.2.2.2.2.2.2.1 a_record_keys T.2.2.2.2.2.2.2.2.2.2.2.2.2.2.1 T.2.2.2.2.2.2.2.2.2.2.2.2.2.2.2.1 T.2.2.2.2.2.2.2.2.2.2.2.2.2.2.2.2.1 T.2.2.2.2.2.2.2.2.2.2.2.2.2.2.2.2.2))) h hQ hx hb hr rfl hlocks hS hP hD dX10_book_126
        replace h := jif_f hq52_3 h
        refine lv_tableOut (tgt := 127) hx hb dX10_book_52 (j_tabout 0 3 (by decide) (fun k h1 h2 => by rcases (show k = 0 ∨ k = 1 ∨ k = 2 ∨ k = 3 by omega) with rfl | rfl | rfl | rfl <;> first | exact hq52_0 | exact hq52_1 | exact hq52_2 | exact hq52_3)) (by decide) ?_
        refine lv_iconst (v := (-1)) hx hb dX10_book_127 (by decide) ?_
        exact j_iret (u := ((-1), c_page_size, c_page_shift, c_page_link, c_page_lastWordLength, c_page_lastWordVowels, c_record_readSoFar, c_transcript_size, c_transcript_raws, c_transcript_settled, c_transcript_chord_size, a_page_bytes, a_record_entries, a_record_firsts, a_transcript_behinds, a_transcript_chord_letters, a_transcript_lasts, a_transcript_owners)) (rv := (fun T => T.1)) (wv := (fun T => (jw_Room_book E q_this q_tape q_entries q_record q_page q_transcript q_planner q_runs q_chord q_outline q_entries_kinds q_entries_strokeCounts q_entries_strokes q_entries_lengths q_entries_letters q_page_bytes q_record_keys q_record_firsts q_record_entries q_transcript_chord q_transcript_lasts q_transcript_behinds q_transcript_owners q_transcript_chord_letters c_entries_size T.2.1 T.2.2.1 T.2.2.2.1 T.2.2.2.2.1 T.2.2.2.2.2.1 c_record_size T.2.2.2.2.2.2.1 T.2.2.2.2.2.2.2.1 T.2.2.2.2.2.2.2.2.1 T.2.2.2.2.2.2.2.2.2.1 T.2.2.2.2.2.2.2.2.2.2.1 a_entries_kinds a_entries_lengths a_entries_letters a_entries_strokeCounts a_entries_strokes T.2.2.2.2.2.2.2.2.2.2.2.1 T.2.2.2.2.2.2.2.2.2.2.2.2.1 T.2.2.2.2.2.2.2.2.2.2.2.2.2.1 a_record_keys T.2.2.2.2.2.2.2.2.2.2.2.2.2.2.1 T.2.2.2.2.2.2.2.2.2.2.2.2.2.2.2.1 T.2.2.2.2.2.2.2.2.2.2.2.2.2.2.2.2.1 T.2.2.2.2.2.2.2.2.2.2.2.2.2.2.2.2.2))) h hQ hx hb hr rfl hlocks hS hP hD dX10_book_128
      · replace h := jif_f hq35 h
        refine lv_aload_n hx hb dX10_book_38 rfl (lv_at hl 0 rfl) ?_
        refine va_get (D := E.1) (ci := 10) (v := .ref q_entries) (C := RX10) (T := TX10) (N := 9) hx hb hts hin10 hown hK.1 hP 0 rfl rfl 1 (by decide) hk_19 (fun _ h9 => h9) rfl dX10_book_39 ?_
        refine lv_iload_n hx hb dX10_book_42 rfl (lv_at hl 1 rfl) ?_
        refine lv_iload_n hx hb dX10_book_43 rfl (lv_at hl 2 rfl) ?_
        refine lv_bipush (v := 10) hx hb dX10_book_44 (by decide) ?_
        refine lv_isub hx hb dX10_book_46 ?_
        obtain ⟨r47, hf47, h⟩ := jbd h
        refine j_callVi (own := RX10) (As := [.int x1, .int (x2 - 10)]) (rest := []) hx hb hml hown hts hK hA hP hD hS (jc_Book_strokeAt l E q_entries q_entries_kinds q_entries_strokeCounts q_entries_strokes q_entries_lengths q_entries_letters c_entries_size a_entries_strokeCounts a_entries_strokes x1 (x2 - 10) N hf47) gX10_book_X0_strokeAt rfl ⟨rfl, rfl⟩ 2 (by decide +kernel) rfl rfl 1 0 rfl rfl [1, 9, 10] [0, 2, 3, 4, 5, 6, 7, 8, 11, 12, 13, 14, 15, 16, 17, 18] [0, 16, 1, 2, 3, 4, 5, 6, 7, 17, 18, 8, 9, 10, 11, 12, 13, 14, 15] rfl rfl rfl rfl rfl rfl rfl hl.1 rfl rfl dX10_book_47 (fun H locs hP hD hS => ?_)
        replace hP : va_P E.1 vwCl (jw_Room_book E q_this q_tape q_entries q_record q_page q_transcript q_planner q_runs q_chord q_outline q_entries_kinds q_entries_strokeCounts q_entries_strokes q_entries_lengths q_entries_letters q_page_bytes q_record_keys q_record_firsts q_record_entries q_transcript_chord q_transcript_lasts q_transcript_behinds q_transcript_owners q_transcript_chord_letters c_entries_size c_page_size c_page_shift c_page_link c_page_lastWordLength c_page_lastWordVowels c_record_size c_record_readSoFar c_transcript_size c_transcript_raws c_transcript_settled c_transcript_chord_size a_entries_kinds a_entries_lengths a_entries_letters a_entries_strokeCounts a_entries_strokes a_page_bytes a_record_entries a_record_firsts a_record_keys a_transcript_behinds a_transcript_chord_letters a_transcript_lasts a_transcript_owners) H := hP
        replace hD : va_D A (jw_Room_book E q_this q_tape q_entries q_record q_page q_transcript q_planner q_runs q_chord q_outline q_entries_kinds q_entries_strokeCounts q_entries_strokes q_entries_lengths q_entries_letters q_page_bytes q_record_keys q_record_firsts q_record_entries q_transcript_chord q_transcript_lasts q_transcript_behinds q_transcript_owners q_transcript_chord_letters c_entries_size c_page_size c_page_shift c_page_link c_page_lastWordLength c_page_lastWordVowels c_record_size c_record_readSoFar c_transcript_size c_transcript_raws c_transcript_settled c_transcript_chord_size a_entries_kinds a_entries_lengths a_entries_letters a_entries_strokeCounts a_entries_strokes a_page_bytes a_record_entries a_record_firsts a_record_keys a_transcript_behinds a_transcript_chord_letters a_transcript_lasts a_transcript_owners) := hD
        exact j_iret (u := (r47, c_page_size, c_page_shift, c_page_link, c_page_lastWordLength, c_page_lastWordVowels, c_record_readSoFar, c_transcript_size, c_transcript_raws, c_transcript_settled, c_transcript_chord_size, a_page_bytes, a_record_entries, a_record_firsts, a_transcript_behinds, a_transcript_chord_letters, a_transcript_lasts, a_transcript_owners)) (rv := (fun T => T.1)) (wv := (fun T => (jw_Room_book E q_this q_tape q_entries q_record q_page q_transcript q_planner q_runs q_chord q_outline q_entries_kinds q_entries_strokeCounts q_entries_strokes q_entries_lengths q_entries_letters q_page_bytes q_record_keys q_record_firsts q_record_entries q_transcript_chord q_transcript_lasts q_transcript_behinds q_transcript_owners q_transcript_chord_letters c_entries_size T.2.1 T.2.2.1 T.2.2.2.1 T.2.2.2.2.1 T.2.2.2.2.2.1 c_record_size T.2.2.2.2.2.2.1 T.2.2.2.2.2.2.2.1 T.2.2.2.2.2.2.2.2.1 T.2.2.2.2.2.2.2.2.2.1 T.2.2.2.2.2.2.2.2.2.2.1 a_entries_kinds a_entries_lengths a_entries_letters a_entries_strokeCounts a_entries_strokes T.2.2.2.2.2.2.2.2.2.2.2.1 T.2.2.2.2.2.2.2.2.2.2.2.2.1 T.2.2.2.2.2.2.2.2.2.2.2.2.2.1 a_record_keys T.2.2.2.2.2.2.2.2.2.2.2.2.2.2.1 T.2.2.2.2.2.2.2.2.2.2.2.2.2.2.2.1 T.2.2.2.2.2.2.2.2.2.2.2.2.2.2.2.2.1 T.2.2.2.2.2.2.2.2.2.2.2.2.2.2.2.2.2))) h hQ hx hb hr rfl hlocks hS hP hD dX10_book_50
    · replace h := jif_f hq16 h
      refine lv_aload_n hx hb dX10_book_19 rfl (lv_at hl 0 rfl) ?_
      refine va_get (D := E.1) (ci := 10) (v := .ref q_entries) (C := RX10) (T := TX10) (N := 9) hx hb hts hin10 hown hK.1 hP 0 rfl rfl 1 (by decide) hk_19 (fun _ h9 => h9) rfl dX10_book_20 ?_
      refine lv_iload_n hx hb dX10_book_23 rfl (lv_at hl 1 rfl) ?_
      refine lv_iload_n hx hb dX10_book_24 rfl (lv_at hl 2 rfl) ?_
      refine lv_bipush (v := 20) hx hb dX10_book_25 (by decide) ?_
      refine lv_isub hx hb dX10_book_27 ?_
      obtain ⟨r28, hf28, h⟩ := jbd h
      refine j_callVi (own := RX10) (As := [.int x1, .int (x2 - 20)]) (rest := []) hx hb hml hown hts hK hA hP hD hS (jc_Book_letterAt l E q_entries q_entries_kinds q_entries_strokeCounts q_entries_strokes q_entries_lengths q_entries_letters c_entries_size a_entries_lengths a_entries_letters x1 (x2 - 20) N hf28) gX10_book_X0_letterAt rfl ⟨rfl, rfl⟩ 2 (by decide +kernel) rfl rfl 1 0 rfl rfl [1, 7, 8] [0, 2, 3, 4, 5, 6, 9, 10, 11, 12, 13, 14, 15, 16, 17, 18] [0, 16, 1, 2, 3, 4, 5, 17, 18, 6, 7, 8, 9, 10, 11, 12, 13, 14, 15] rfl rfl rfl rfl rfl rfl rfl hl.1 rfl rfl dX10_book_28 (fun H locs hP hD hS => ?_)
      replace hP : va_P E.1 vwCl (jw_Room_book E q_this q_tape q_entries q_record q_page q_transcript q_planner q_runs q_chord q_outline q_entries_kinds q_entries_strokeCounts q_entries_strokes q_entries_lengths q_entries_letters q_page_bytes q_record_keys q_record_firsts q_record_entries q_transcript_chord q_transcript_lasts q_transcript_behinds q_transcript_owners q_transcript_chord_letters c_entries_size c_page_size c_page_shift c_page_link c_page_lastWordLength c_page_lastWordVowels c_record_size c_record_readSoFar c_transcript_size c_transcript_raws c_transcript_settled c_transcript_chord_size a_entries_kinds a_entries_lengths a_entries_letters a_entries_strokeCounts a_entries_strokes a_page_bytes a_record_entries a_record_firsts a_record_keys a_transcript_behinds a_transcript_chord_letters a_transcript_lasts a_transcript_owners) H := hP
      replace hD : va_D A (jw_Room_book E q_this q_tape q_entries q_record q_page q_transcript q_planner q_runs q_chord q_outline q_entries_kinds q_entries_strokeCounts q_entries_strokes q_entries_lengths q_entries_letters q_page_bytes q_record_keys q_record_firsts q_record_entries q_transcript_chord q_transcript_lasts q_transcript_behinds q_transcript_owners q_transcript_chord_letters c_entries_size c_page_size c_page_shift c_page_link c_page_lastWordLength c_page_lastWordVowels c_record_size c_record_readSoFar c_transcript_size c_transcript_raws c_transcript_settled c_transcript_chord_size a_entries_kinds a_entries_lengths a_entries_letters a_entries_strokeCounts a_entries_strokes a_page_bytes a_record_entries a_record_firsts a_record_keys a_transcript_behinds a_transcript_chord_letters a_transcript_lasts a_transcript_owners) := hD
      exact j_iret (u := (r28, c_page_size, c_page_shift, c_page_link, c_page_lastWordLength, c_page_lastWordVowels, c_record_readSoFar, c_transcript_size, c_transcript_raws, c_transcript_settled, c_transcript_chord_size, a_page_bytes, a_record_entries, a_record_firsts, a_transcript_behinds, a_transcript_chord_letters, a_transcript_lasts, a_transcript_owners)) (rv := (fun T => T.1)) (wv := (fun T => (jw_Room_book E q_this q_tape q_entries q_record q_page q_transcript q_planner q_runs q_chord q_outline q_entries_kinds q_entries_strokeCounts q_entries_strokes q_entries_lengths q_entries_letters q_page_bytes q_record_keys q_record_firsts q_record_entries q_transcript_chord q_transcript_lasts q_transcript_behinds q_transcript_owners q_transcript_chord_letters c_entries_size T.2.1 T.2.2.1 T.2.2.2.1 T.2.2.2.2.1 T.2.2.2.2.2.1 c_record_size T.2.2.2.2.2.2.1 T.2.2.2.2.2.2.2.1 T.2.2.2.2.2.2.2.2.1 T.2.2.2.2.2.2.2.2.2.1 T.2.2.2.2.2.2.2.2.2.2.1 a_entries_kinds a_entries_lengths a_entries_letters a_entries_strokeCounts a_entries_strokes T.2.2.2.2.2.2.2.2.2.2.2.1 T.2.2.2.2.2.2.2.2.2.2.2.2.1 T.2.2.2.2.2.2.2.2.2.2.2.2.2.1 a_record_keys T.2.2.2.2.2.2.2.2.2.2.2.2.2.2.1 T.2.2.2.2.2.2.2.2.2.2.2.2.2.2.2.1 T.2.2.2.2.2.2.2.2.2.2.2.2.2.2.2.2.1 T.2.2.2.2.2.2.2.2.2.2.2.2.2.2.2.2.2))) h hQ hx hb hr rfl hlocks hS hP hD dX10_book_31
  · replace h := jif_t hq8 h
    refine lv_iconst (v := (-1)) hx hb dX10_book_11 (by decide) ?_
    exact j_iret (u := ((-1), c_page_size, c_page_shift, c_page_link, c_page_lastWordLength, c_page_lastWordVowels, c_record_readSoFar, c_transcript_size, c_transcript_raws, c_transcript_settled, c_transcript_chord_size, a_page_bytes, a_record_entries, a_record_firsts, a_transcript_behinds, a_transcript_chord_letters, a_transcript_lasts, a_transcript_owners)) (rv := (fun T => T.1)) (wv := (fun T => (jw_Room_book E q_this q_tape q_entries q_record q_page q_transcript q_planner q_runs q_chord q_outline q_entries_kinds q_entries_strokeCounts q_entries_strokes q_entries_lengths q_entries_letters q_page_bytes q_record_keys q_record_firsts q_record_entries q_transcript_chord q_transcript_lasts q_transcript_behinds q_transcript_owners q_transcript_chord_letters c_entries_size T.2.1 T.2.2.1 T.2.2.2.1 T.2.2.2.2.1 T.2.2.2.2.2.1 c_record_size T.2.2.2.2.2.2.1 T.2.2.2.2.2.2.2.1 T.2.2.2.2.2.2.2.2.1 T.2.2.2.2.2.2.2.2.2.1 T.2.2.2.2.2.2.2.2.2.2.1 a_entries_kinds a_entries_lengths a_entries_letters a_entries_strokeCounts a_entries_strokes T.2.2.2.2.2.2.2.2.2.2.2.1 T.2.2.2.2.2.2.2.2.2.2.2.2.1 T.2.2.2.2.2.2.2.2.2.2.2.2.2.1 a_record_keys T.2.2.2.2.2.2.2.2.2.2.2.2.2.2.1 T.2.2.2.2.2.2.2.2.2.2.2.2.2.2.2.1 T.2.2.2.2.2.2.2.2.2.2.2.2.2.2.2.2.1 T.2.2.2.2.2.2.2.2.2.2.2.2.2.2.2.2.2))) h hQ hx hb hr rfl hlocks hS hP hD dX10_book_12
abbrev jw_Model_types (E : jE) (q_this q_tape q_taken q_strokeMany q_kind q_textMany q_strokes q_texts q_record q_itsEntry q_itsFirst q_text q_lengthAhead q_lengthBehind q_chord q_asked q_way q_wayStrokes q_wayMany q_best q_tried q_plan q_made q_trial q_two : Nat) (c_taped : Int32) (c_entries : Int32) (c_recorded : Int32) (c_translations : Int32) (c_length : Int32) (c_shift : Int32) (c_link : Int32) (c_chordMany : Int32) (c_lastMany : Int32) (c_bestMany : Int32) (c_bestStrokes : Int32) (c_triedMany : Int32) (c_triedStrokes : Int32) (c_planMany : Int32) (c_planStrokes : Int32) (c_madeMany : Int32) (c_madeStrokes : Int32) (c_isClear : Int32) (c_isPlanned : Int32) (a_tape : (Nat → Int32)) : va_W := [(q_this, .inr (11, [.ref q_tape, .ref q_taken, .int c_taped, .int c_entries, .ref q_strokeMany, .ref q_kind, .ref q_textMany, .ref q_strokes, .ref q_texts, .ref q_record, .int c_recorded, .ref q_itsEntry, .ref q_itsFirst, .int c_translations, .ref q_text, .ref q_lengthAhead, .ref q_lengthBehind, .int c_length, .int c_shift, .int c_link, .ref q_chord, .int c_chordMany, .int c_lastMany, .ref q_asked, .ref q_way, .ref q_wayStrokes, .ref q_wayMany, .ref q_best, .ref q_tried, .ref q_plan, .ref q_made, .int c_bestMany, .int c_bestStrokes, .int c_triedMany, .int c_triedStrokes, .int c_planMany, .int c_planStrokes, .int c_madeMany, .int c_madeStrokes, .int c_isClear, .int c_isPlanned, .ref q_trial, .ref q_two])), (q_tape, .inl (E.2.1, 80, .inl a_tape))]
def jr_Model_types : Room := { frames := 0, cells := 0, slots := 0, locals := 0 }
set_option maxHeartbeats 4000000 in
set_option maxRecDepth 100000 in
theorem jc_Model_types (l : Launch) (E : jE) (q_this q_tape q_taken q_strokeMany q_kind q_textMany q_strokes q_texts q_record q_itsEntry q_itsFirst q_text q_lengthAhead q_lengthBehind q_chord q_asked q_way q_wayStrokes q_wayMany q_best q_tried q_plan q_made q_trial q_two : Nat) (c_taped : Int32) (c_entries : Int32) (c_recorded : Int32) (c_translations : Int32) (c_length : Int32) (c_shift : Int32) (c_link : Int32) (c_chordMany : Int32) (c_lastMany : Int32) (c_bestMany : Int32) (c_bestStrokes : Int32) (c_triedMany : Int32) (c_triedStrokes : Int32) (c_planMany : Int32) (c_planStrokes : Int32) (c_madeMany : Int32) (c_madeStrokes : Int32) (c_isClear : Int32) (c_isPlanned : Int32) (a_tape : (Nat → Int32)) (x1 : Int32) (N : Nat) {T : Int32 × (Nat → Int32)} (h : jf_Model_types N x1 c_taped a_tape = some T) : jMv l yX11_types wsX11_types jr_Model_types E [.ref q_this, .int x1] (jw_Model_types E q_this q_tape q_taken q_strokeMany q_kind q_textMany q_strokes q_texts q_record q_itsEntry q_itsFirst q_text q_lengthAhead q_lengthBehind q_chord q_asked q_way q_wayStrokes q_wayMany q_best q_tried q_plan q_made q_trial q_two c_taped c_entries c_recorded c_translations c_length c_shift c_link c_chordMany c_lastMany c_bestMany c_bestStrokes c_triedMany c_triedStrokes c_planMany c_planStrokes c_madeMany c_madeStrokes c_isClear c_isPlanned a_tape) (jw_Model_types E q_this q_tape q_taken q_strokeMany q_kind q_textMany q_strokes q_texts q_record q_itsEntry q_itsFirst q_text q_lengthAhead q_lengthBehind q_chord q_asked q_way q_wayStrokes q_wayMany q_best q_tried q_plan q_made q_trial q_two T.1 c_entries c_recorded c_translations c_length c_shift c_link c_chordMany c_lastMany c_bestMany c_bestStrokes c_triedMany c_triedStrokes c_planMany c_planStrokes c_madeMany c_madeStrokes c_isClear c_isPlanned T.2) := by
  refine jMv.begin (cc := cX11_types) (maxL := 3) (ret := none) (by decide) rfl (Nat.le_of_ble_eq_true rfl) ?_
  intro p e s m args below meth c A ls Q hQ hx hb hr hml hown hlocks hts hK hA hP hD hS hl
  replace hown : s.vm.findClass RX11 = some m.cls := hown
  replace hl : lv_has ls 3 [(0, .ref q_this), (1, .int x1)] := hl
  have hin11 : ∀ w ∈ u_ws RX11 TX11 43, w ∈ wsX11_types := by decide +kernel
  have hk_7 := hts (.fieldLink RX11 7 "StenoRoomModel" "tape" "[B") (by decide +kernel)
  have hk_83 := hts (.fieldLink RX11 83 "StenoRoomModel" "taped" "I") (by decide +kernel)
  have kb2 : ∀ (n : Nat) (x2 : Int32) (c_taped : Int32) (a_tape : (Nat → Int32)) (H : Heap) (locs : List Loc) (ls : Array Slot), jf_Model_types_b2 x1 n x2 c_taped a_tape = some T → va_P E.1 vwCl (jw_Model_types E q_this q_tape q_taken q_strokeMany q_kind q_textMany q_strokes q_texts q_record q_itsEntry q_itsFirst q_text q_lengthAhead q_lengthBehind q_chord q_asked q_way q_wayStrokes q_wayMany q_best q_tried q_plan q_made q_trial q_two c_taped c_entries c_recorded c_translations c_length c_shift c_link c_chordMany c_lastMany c_bestMany c_bestStrokes c_triedMany c_triedStrokes c_planMany c_planStrokes c_madeMany c_madeStrokes c_isClear c_isPlanned a_tape) H → va_D A (jw_Model_types E q_this q_tape q_taken q_strokeMany q_kind q_textMany q_strokes q_texts q_record q_itsEntry q_itsFirst q_text q_lengthAhead q_lengthBehind q_chord q_asked q_way q_wayStrokes q_wayMany q_best q_tried q_plan q_made q_trial q_two c_taped c_entries c_recorded c_translations c_length c_shift c_link c_chordMany c_lastMany c_bestMany c_bestStrokes c_triedMany c_triedStrokes c_planMany c_planStrokes c_madeMany c_madeStrokes c_isClear c_isPlanned a_tape) → va_S A s.heap H locs → lv_has ls 3 [(0, .ref q_this), (1, .int x1), (2, .int x2)] → W p l e jr_Model_types s m args below meth c H locs 0 0 Q (F0 m 2 ls []) := by
    intro n
    induction n with
    | zero => intro x2 c_taped a_tape H locs ls h; exact j_none (α := Int32 × (Nat → Int32)) h
    | succ n ih =>
      intro x2 c_taped a_tape H locs ls h hP hD hS hl
      rw [jf_Model_types_b2] at h
      refine lv_iload_n hx hb dX11_types_2 rfl (lv_at hl 2 rfl) ?_
      refine lv_if_lt (tgt := 38) hx hb dX11_types_3 (by decide) (fun hq3 => ?_) (fun hq3 => ?_)
      · replace h := jif_t hq3 h
        exact j_vret (u := (c_taped, a_tape)) (wv := (fun T => (jw_Model_types E q_this q_tape q_taken q_strokeMany q_kind q_textMany q_strokes q_texts q_record q_itsEntry q_itsFirst q_text q_lengthAhead q_lengthBehind q_chord q_asked q_way q_wayStrokes q_wayMany q_best q_tried q_plan q_made q_trial q_two T.1 c_entries c_recorded c_translations c_length c_shift c_link c_chordMany c_lastMany c_bestMany c_bestStrokes c_triedMany c_triedStrokes c_planMany c_planStrokes c_madeMany c_madeStrokes c_isClear c_isPlanned T.2))) h hQ hx hb hr hlocks hS hP hD dX11_types_38
      · replace h := jif_f hq3 h
        refine lv_aload_n hx hb dX11_types_6 rfl (lv_at hl 0 rfl) ?_
        refine va_get (D := E.1) (ci := 11) (v := .ref q_tape) (C := RX11) (T := TX11) (N := 43) hx hb hts hin11 hown hK.1 hP 0 rfl rfl 0 (by decide) hk_7 (fun _ h9 => h9) rfl dX11_types_7 ?_
        refine lv_aload_n hx hb dX11_types_10 rfl (lv_at hl 0 rfl) ?_
        refine va_get (D := E.1) (ci := 11) (v := .int c_taped) (C := RX11) (T := TX11) (N := 43) hx hb hts hin11 hown hK.1 hP 0 rfl rfl 2 (by decide) hk_83 (fun _ h9 => h9) rfl dX11_types_11 ?_
        refine lv_iload_n hx hb dX11_types_14 rfl (lv_at hl 1 rfl) ?_
        refine lv_bipush (v := 8) hx hb dX11_types_15 (by decide) ?_
        refine lv_iload_n hx hb dX11_types_17 rfl (lv_at hl 2 rfl) ?_
        refine lv_imul hx hb dX11_types_18 ?_
        refine lv_ishr hx hb dX11_types_19 ?_
        refine lv_i2b (v := (x1 >>> ((8 * x2) &&& 31)).toInt8.toInt32) hx hb dX11_types_20 rfl ?_
        obtain ⟨g21, h⟩ := jga_e h
        refine va_bast hx hb hK.1 hP hD hS 1 0 rfl rfl g21 dX11_types_21 (fun H locs hP hD hS => ?_)
        replace hP : va_P E.1 vwCl (jw_Model_types E q_this q_tape q_taken q_strokeMany q_kind q_textMany q_strokes q_texts q_record q_itsEntry q_itsFirst q_text q_lengthAhead q_lengthBehind q_chord q_asked q_way q_wayStrokes q_wayMany q_best q_tried q_plan q_made q_trial q_two c_taped c_entries c_recorded c_translations c_length c_shift c_link c_chordMany c_lastMany c_bestMany c_bestStrokes c_triedMany c_triedStrokes c_planMany c_planStrokes c_madeMany c_madeStrokes c_isClear c_isPlanned (upd a_tape c_taped.toNatClampNeg (vp_nar .byte ((x1 >>> ((8 * x2) &&& 31)).toInt8.toInt32)))) H := hP
        replace hD : va_D A (jw_Model_types E q_this q_tape q_taken q_strokeMany q_kind q_textMany q_strokes q_texts q_record q_itsEntry q_itsFirst q_text q_lengthAhead q_lengthBehind q_chord q_asked q_way q_wayStrokes q_wayMany q_best q_tried q_plan q_made q_trial q_two c_taped c_entries c_recorded c_translations c_length c_shift c_link c_chordMany c_lastMany c_bestMany c_bestStrokes c_triedMany c_triedStrokes c_planMany c_planStrokes c_madeMany c_madeStrokes c_isClear c_isPlanned (upd a_tape c_taped.toNatClampNeg (vp_nar .byte ((x1 >>> ((8 * x2) &&& 31)).toInt8.toInt32)))) := hD
        refine lv_aload_n hx hb dX11_types_22 rfl (lv_at hl 0 rfl) ?_
        refine lv_aload_n hx hb dX11_types_23 rfl (lv_at hl 0 rfl) ?_
        refine va_get (D := E.1) (ci := 11) (v := .int c_taped) (C := RX11) (T := TX11) (N := 43) hx hb hts hin11 hown hK.1 hP 0 rfl rfl 2 (by decide) hk_83 (fun _ h9 => h9) rfl dX11_types_24 ?_
        refine lv_iconst (v := 1) hx hb dX11_types_27 (by decide) ?_
        refine lv_iadd hx hb dX11_types_28 ?_
        refine va_put (D := E.1) (ci := 11) (v := .int (c_taped + 1)) (ty := .int) (C := RX11) (T := TX11) (N := 43) hx hb hts hin11 tyX11 tyX11_ok nmX11 hown hK.1 hP hD hS 0 rfl rfl 2 (by decide) hk_83 (fun _ h9 => h9) rfl (by decide +kernel) rfl rfl (Nat.le_of_ble_eq_true rfl) dX11_types_29 (fun H locs hP hD hS => ?_)
        replace hP : va_P E.1 vwCl (jw_Model_types E q_this q_tape q_taken q_strokeMany q_kind q_textMany q_strokes q_texts q_record q_itsEntry q_itsFirst q_text q_lengthAhead q_lengthBehind q_chord q_asked q_way q_wayStrokes q_wayMany q_best q_tried q_plan q_made q_trial q_two (c_taped + 1) c_entries c_recorded c_translations c_length c_shift c_link c_chordMany c_lastMany c_bestMany c_bestStrokes c_triedMany c_triedStrokes c_planMany c_planStrokes c_madeMany c_madeStrokes c_isClear c_isPlanned (upd a_tape c_taped.toNatClampNeg (vp_nar .byte ((x1 >>> ((8 * x2) &&& 31)).toInt8.toInt32)))) H := hP
        replace hD : va_D A (jw_Model_types E q_this q_tape q_taken q_strokeMany q_kind q_textMany q_strokes q_texts q_record q_itsEntry q_itsFirst q_text q_lengthAhead q_lengthBehind q_chord q_asked q_way q_wayStrokes q_wayMany q_best q_tried q_plan q_made q_trial q_two (c_taped + 1) c_entries c_recorded c_translations c_length c_shift c_link c_chordMany c_lastMany c_bestMany c_bestStrokes c_triedMany c_triedStrokes c_planMany c_planStrokes c_madeMany c_madeStrokes c_isClear c_isPlanned (upd a_tape c_taped.toNatClampNeg (vp_nar .byte ((x1 >>> ((8 * x2) &&& 31)).toInt8.toInt32)))) := hD
        refine lv_iinc (v := (x2 + (-1))) (lv' := [(2, .int (x2 + (-1))), (0, .ref q_this), (1, .int x1)]) hx hb dX11_types_32 hl (k := 2) rfl rfl (by decide) rfl (fun ls hl => ?_)
        refine lv_goto (tgt := 2) hx hb dX11_types_35 (by decide) ?_
        exact ih (x2 + (-1)) (c_taped + 1) (upd a_tape c_taped.toNatClampNeg (vp_nar .byte ((x1 >>> ((8 * x2) &&& 31)).toInt8.toInt32))) _ _ _ h hP hD hS (lv_sub hl [1, 2, 0] rfl)
  unfold jf_Model_types at h
  refine lv_iconst (v := 3) hx hb dX11_types_0 (by decide) ?_
  refine lv_istore_n (lv' := [(2, .int 3), (0, .ref q_this), (1, .int x1)]) hx hb dX11_types_1 rfl hl (by decide) rfl (fun ls hl => ?_)
  exact kb2  N 3 c_taped a_tape _ _ _ h hP hD hS (lv_sub hl [1, 2, 0] rfl)
abbrev jw_Model_feed (E : jE) (q_this q_tape q_taken q_strokeMany q_kind q_textMany q_strokes q_texts q_record q_itsEntry q_itsFirst q_text q_lengthAhead q_lengthBehind q_chord q_asked q_way q_wayStrokes q_wayMany q_best q_tried q_plan q_made q_trial q_two : Nat) (c_taped : Int32) (c_entries : Int32) (c_recorded : Int32) (c_translations : Int32) (c_length : Int32) (c_shift : Int32) (c_link : Int32) (c_chordMany : Int32) (c_lastMany : Int32) (c_bestMany : Int32) (c_bestStrokes : Int32) (c_triedMany : Int32) (c_triedStrokes : Int32) (c_planMany : Int32) (c_planStrokes : Int32) (c_madeMany : Int32) (c_madeStrokes : Int32) (c_isClear : Int32) (c_isPlanned : Int32) (a_tape : (Nat → Int32)) : va_W := [(q_this, .inr (11, [.ref q_tape, .ref q_taken, .int c_taped, .int c_entries, .ref q_strokeMany, .ref q_kind, .ref q_textMany, .ref q_strokes, .ref q_texts, .ref q_record, .int c_recorded, .ref q_itsEntry, .ref q_itsFirst, .int c_translations, .ref q_text, .ref q_lengthAhead, .ref q_lengthBehind, .int c_length, .int c_shift, .int c_link, .ref q_chord, .int c_chordMany, .int c_lastMany, .ref q_asked, .ref q_way, .ref q_wayStrokes, .ref q_wayMany, .ref q_best, .ref q_tried, .ref q_plan, .ref q_made, .int c_bestMany, .int c_bestStrokes, .int c_triedMany, .int c_triedStrokes, .int c_planMany, .int c_planStrokes, .int c_madeMany, .int c_madeStrokes, .int c_isClear, .int c_isPlanned, .ref q_trial, .ref q_two])), (q_tape, .inl (E.2.1, 80, .inl a_tape))]
def jr_Model_feed : Room := { frames := 1, cells := 0, slots := 0, locals := 22 }
set_option maxHeartbeats 4000000 in
set_option maxRecDepth 100000 in
theorem jc_Model_feed (l : Launch) (E : jE) (q_this q_tape q_taken q_strokeMany q_kind q_textMany q_strokes q_texts q_record q_itsEntry q_itsFirst q_text q_lengthAhead q_lengthBehind q_chord q_asked q_way q_wayStrokes q_wayMany q_best q_tried q_plan q_made q_trial q_two : Nat) (c_taped : Int32) (c_entries : Int32) (c_recorded : Int32) (c_translations : Int32) (c_length : Int32) (c_shift : Int32) (c_link : Int32) (c_chordMany : Int32) (c_lastMany : Int32) (c_bestMany : Int32) (c_bestStrokes : Int32) (c_triedMany : Int32) (c_triedStrokes : Int32) (c_planMany : Int32) (c_planStrokes : Int32) (c_madeMany : Int32) (c_madeStrokes : Int32) (c_isClear : Int32) (c_isPlanned : Int32) (a_tape : (Nat → Int32)) (x1 : Int32) (x2 : Int32) (x3 : Int32) (x4 : Int32) (x5 : Int32) (N : Nat) {T : Int32 × Int32 × (Nat → Int32)} (h : jf_Model_feed N x1 x2 x3 x4 x5 c_taped a_tape = some T) : jMi l yX11_feed wsX11_feed jr_Model_feed E [.ref q_this, .int x1, .int x2, .int x3, .int x4, .int x5] (jw_Model_feed E q_this q_tape q_taken q_strokeMany q_kind q_textMany q_strokes q_texts q_record q_itsEntry q_itsFirst q_text q_lengthAhead q_lengthBehind q_chord q_asked q_way q_wayStrokes q_wayMany q_best q_tried q_plan q_made q_trial q_two c_taped c_entries c_recorded c_translations c_length c_shift c_link c_chordMany c_lastMany c_bestMany c_bestStrokes c_triedMany c_triedStrokes c_planMany c_planStrokes c_madeMany c_madeStrokes c_isClear c_isPlanned a_tape) (T.1) (jw_Model_feed E q_this q_tape q_taken q_strokeMany q_kind q_textMany q_strokes q_texts q_record q_itsEntry q_itsFirst q_text q_lengthAhead q_lengthBehind q_chord q_asked q_way q_wayStrokes q_wayMany q_best q_tried q_plan q_made q_trial q_two T.2.1 c_entries c_recorded c_translations c_length c_shift c_link c_chordMany c_lastMany c_bestMany c_bestStrokes c_triedMany c_triedStrokes c_planMany c_planStrokes c_madeMany c_madeStrokes c_isClear c_isPlanned T.2.2) := by
  refine jMi.begin (cc := cX11_feed) (maxL := 6) (ret := (some .int)) (by decide) rfl (Nat.le_of_ble_eq_true rfl) ?_
  intro p e s m args below meth c A ls Q hQ hx hb hr hml hown hlocks hts hK hA hP hD hS hl
  replace hown : s.vm.findClass RX11 = some m.cls := hown
  replace hl : lv_has ls 6 [(0, .ref q_this), (1, .int x1), (2, .int x2), (3, .int x3), (4, .int x4), (5, .int x5)] := hl
  have hin11 : ∀ w ∈ u_ws RX11 TX11 43, w ∈ wsX11_feed := by decide +kernel
  have hk_83 := hts (.fieldLink RX11 83 "StenoRoomModel" "taped" "I") (by decide +kernel)
  unfold jf_Model_feed at h
  refine lv_aload_n hx hb dX11_feed_0 rfl (lv_at hl 0 rfl) ?_
  refine va_get (D := E.1) (ci := 11) (v := .int c_taped) (C := RX11) (T := TX11) (N := 43) hx hb hts hin11 hown hK.1 hP 0 rfl rfl 2 (by decide) hk_83 (fun _ h9 => h9) rfl dX11_feed_1 ?_
  refine lv_bipush (v := 20) hx hb dX11_feed_4 (by decide) ?_
  refine lv_iadd hx hb dX11_feed_6 ?_
  refine lv_bipush (v := 80) hx hb dX11_feed_7 (by decide) ?_
  refine lv_icmp_le (tgt := 14) hx hb dX11_feed_9 (by decide) (fun hq9 => ?_) (fun hq9 => ?_)
  · replace h := jif_t hq9 h
    refine lv_aload_n hx hb dX11_feed_14 rfl (lv_at hl 0 rfl) ?_
    refine lv_iload_n hx hb dX11_feed_15 rfl (lv_at hl 1 rfl) ?_
    obtain ⟨⟨c_taped_16, a_tape_16⟩, hf16, h⟩ := jbd h
    refine j_callVv (own := RX11) (As := [.int x1]) (rest := []) hx hb hml hown hts hK hA hP hD hS (jc_Model_types l E q_this q_tape q_taken q_strokeMany q_kind q_textMany q_strokes q_texts q_record q_itsEntry q_itsFirst q_text q_lengthAhead q_lengthBehind q_chord q_asked q_way q_wayStrokes q_wayMany q_best q_tried q_plan q_made q_trial q_two c_taped c_entries c_recorded c_translations c_length c_shift c_link c_chordMany c_lastMany c_bestMany c_bestStrokes c_triedMany c_triedStrokes c_planMany c_planStrokes c_madeMany c_madeStrokes c_isClear c_isPlanned a_tape x1 N hf16) gX11_feed_X11_types rfl ⟨rfl, rfl⟩ 1 (by decide +kernel) rfl rfl 0 11 rfl rfl [0, 1] [] [0, 1] rfl rfl rfl rfl rfl rfl rfl hl.1 rfl rfl dX11_feed_16 (fun H locs hP hD hS => ?_)
    replace hP : va_P E.1 vwCl (jw_Model_feed E q_this q_tape q_taken q_strokeMany q_kind q_textMany q_strokes q_texts q_record q_itsEntry q_itsFirst q_text q_lengthAhead q_lengthBehind q_chord q_asked q_way q_wayStrokes q_wayMany q_best q_tried q_plan q_made q_trial q_two c_taped_16 c_entries c_recorded c_translations c_length c_shift c_link c_chordMany c_lastMany c_bestMany c_bestStrokes c_triedMany c_triedStrokes c_planMany c_planStrokes c_madeMany c_madeStrokes c_isClear c_isPlanned a_tape_16) H := hP
    replace hD : va_D A (jw_Model_feed E q_this q_tape q_taken q_strokeMany q_kind q_textMany q_strokes q_texts q_record q_itsEntry q_itsFirst q_text q_lengthAhead q_lengthBehind q_chord q_asked q_way q_wayStrokes q_wayMany q_best q_tried q_plan q_made q_trial q_two c_taped_16 c_entries c_recorded c_translations c_length c_shift c_link c_chordMany c_lastMany c_bestMany c_bestStrokes c_triedMany c_triedStrokes c_planMany c_planStrokes c_madeMany c_madeStrokes c_isClear c_isPlanned a_tape_16) := hD
    refine lv_aload_n hx hb dX11_feed_19 rfl (lv_at hl 0 rfl) ?_
    refine lv_iload_n hx hb dX11_feed_20 rfl (lv_at hl 2 rfl) ?_
    obtain ⟨⟨c_taped_21, a_tape_21⟩, hf21, h⟩ := jbd h
    refine j_callVv (own := RX11) (As := [.int x2]) (rest := []) hx hb hml hown hts hK hA hP hD hS (jc_Model_types l E q_this q_tape q_taken q_strokeMany q_kind q_textMany q_strokes q_texts q_record q_itsEntry q_itsFirst q_text q_lengthAhead q_lengthBehind q_chord q_asked q_way q_wayStrokes q_wayMany q_best q_tried q_plan q_made q_trial q_two c_taped_16 c_entries c_recorded c_translations c_length c_shift c_link c_chordMany c_lastMany c_bestMany c_bestStrokes c_triedMany c_triedStrokes c_planMany c_planStrokes c_madeMany c_madeStrokes c_isClear c_isPlanned a_tape_16 x2 N hf21) gX11_feed_X11_types rfl ⟨rfl, rfl⟩ 1 (by decide +kernel) rfl rfl 0 11 rfl rfl [0, 1] [] [0, 1] rfl rfl rfl rfl rfl rfl rfl hl.1 rfl rfl dX11_feed_21 (fun H locs hP hD hS => ?_)
    replace hP : va_P E.1 vwCl (jw_Model_feed E q_this q_tape q_taken q_strokeMany q_kind q_textMany q_strokes q_texts q_record q_itsEntry q_itsFirst q_text q_lengthAhead q_lengthBehind q_chord q_asked q_way q_wayStrokes q_wayMany q_best q_tried q_plan q_made q_trial q_two c_taped_21 c_entries c_recorded c_translations c_length c_shift c_link c_chordMany c_lastMany c_bestMany c_bestStrokes c_triedMany c_triedStrokes c_planMany c_planStrokes c_madeMany c_madeStrokes c_isClear c_isPlanned a_tape_21) H := hP
    replace hD : va_D A (jw_Model_feed E q_this q_tape q_taken q_strokeMany q_kind q_textMany q_strokes q_texts q_record q_itsEntry q_itsFirst q_text q_lengthAhead q_lengthBehind q_chord q_asked q_way q_wayStrokes q_wayMany q_best q_tried q_plan q_made q_trial q_two c_taped_21 c_entries c_recorded c_translations c_length c_shift c_link c_chordMany c_lastMany c_bestMany c_bestStrokes c_triedMany c_triedStrokes c_planMany c_planStrokes c_madeMany c_madeStrokes c_isClear c_isPlanned a_tape_21) := hD
    refine lv_aload_n hx hb dX11_feed_24 rfl (lv_at hl 0 rfl) ?_
    refine lv_iload_n hx hb dX11_feed_25 rfl (lv_at hl 3 rfl) ?_
    obtain ⟨⟨c_taped_26, a_tape_26⟩, hf26, h⟩ := jbd h
    refine j_callVv (own := RX11) (As := [.int x3]) (rest := []) hx hb hml hown hts hK hA hP hD hS (jc_Model_types l E q_this q_tape q_taken q_strokeMany q_kind q_textMany q_strokes q_texts q_record q_itsEntry q_itsFirst q_text q_lengthAhead q_lengthBehind q_chord q_asked q_way q_wayStrokes q_wayMany q_best q_tried q_plan q_made q_trial q_two c_taped_21 c_entries c_recorded c_translations c_length c_shift c_link c_chordMany c_lastMany c_bestMany c_bestStrokes c_triedMany c_triedStrokes c_planMany c_planStrokes c_madeMany c_madeStrokes c_isClear c_isPlanned a_tape_21 x3 N hf26) gX11_feed_X11_types rfl ⟨rfl, rfl⟩ 1 (by decide +kernel) rfl rfl 0 11 rfl rfl [0, 1] [] [0, 1] rfl rfl rfl rfl rfl rfl rfl hl.1 rfl rfl dX11_feed_26 (fun H locs hP hD hS => ?_)
    replace hP : va_P E.1 vwCl (jw_Model_feed E q_this q_tape q_taken q_strokeMany q_kind q_textMany q_strokes q_texts q_record q_itsEntry q_itsFirst q_text q_lengthAhead q_lengthBehind q_chord q_asked q_way q_wayStrokes q_wayMany q_best q_tried q_plan q_made q_trial q_two c_taped_26 c_entries c_recorded c_translations c_length c_shift c_link c_chordMany c_lastMany c_bestMany c_bestStrokes c_triedMany c_triedStrokes c_planMany c_planStrokes c_madeMany c_madeStrokes c_isClear c_isPlanned a_tape_26) H := hP
    replace hD : va_D A (jw_Model_feed E q_this q_tape q_taken q_strokeMany q_kind q_textMany q_strokes q_texts q_record q_itsEntry q_itsFirst q_text q_lengthAhead q_lengthBehind q_chord q_asked q_way q_wayStrokes q_wayMany q_best q_tried q_plan q_made q_trial q_two c_taped_26 c_entries c_recorded c_translations c_length c_shift c_link c_chordMany c_lastMany c_bestMany c_bestStrokes c_triedMany c_triedStrokes c_planMany c_planStrokes c_madeMany c_madeStrokes c_isClear c_isPlanned a_tape_26) := hD
    refine lv_aload_n hx hb dX11_feed_29 rfl (lv_at hl 0 rfl) ?_
    refine lv_iload hx hb dX11_feed_30 (lv_at hl 4 rfl) ?_
    obtain ⟨⟨c_taped_32, a_tape_32⟩, hf32, h⟩ := jbd h
    refine j_callVv (own := RX11) (As := [.int x4]) (rest := []) hx hb hml hown hts hK hA hP hD hS (jc_Model_types l E q_this q_tape q_taken q_strokeMany q_kind q_textMany q_strokes q_texts q_record q_itsEntry q_itsFirst q_text q_lengthAhead q_lengthBehind q_chord q_asked q_way q_wayStrokes q_wayMany q_best q_tried q_plan q_made q_trial q_two c_taped_26 c_entries c_recorded c_translations c_length c_shift c_link c_chordMany c_lastMany c_bestMany c_bestStrokes c_triedMany c_triedStrokes c_planMany c_planStrokes c_madeMany c_madeStrokes c_isClear c_isPlanned a_tape_26 x4 N hf32) gX11_feed_X11_types rfl ⟨rfl, rfl⟩ 1 (by decide +kernel) rfl rfl 0 11 rfl rfl [0, 1] [] [0, 1] rfl rfl rfl rfl rfl rfl rfl hl.1 rfl rfl dX11_feed_32 (fun H locs hP hD hS => ?_)
    replace hP : va_P E.1 vwCl (jw_Model_feed E q_this q_tape q_taken q_strokeMany q_kind q_textMany q_strokes q_texts q_record q_itsEntry q_itsFirst q_text q_lengthAhead q_lengthBehind q_chord q_asked q_way q_wayStrokes q_wayMany q_best q_tried q_plan q_made q_trial q_two c_taped_32 c_entries c_recorded c_translations c_length c_shift c_link c_chordMany c_lastMany c_bestMany c_bestStrokes c_triedMany c_triedStrokes c_planMany c_planStrokes c_madeMany c_madeStrokes c_isClear c_isPlanned a_tape_32) H := hP
    replace hD : va_D A (jw_Model_feed E q_this q_tape q_taken q_strokeMany q_kind q_textMany q_strokes q_texts q_record q_itsEntry q_itsFirst q_text q_lengthAhead q_lengthBehind q_chord q_asked q_way q_wayStrokes q_wayMany q_best q_tried q_plan q_made q_trial q_two c_taped_32 c_entries c_recorded c_translations c_length c_shift c_link c_chordMany c_lastMany c_bestMany c_bestStrokes c_triedMany c_triedStrokes c_planMany c_planStrokes c_madeMany c_madeStrokes c_isClear c_isPlanned a_tape_32) := hD
    refine lv_aload_n hx hb dX11_feed_35 rfl (lv_at hl 0 rfl) ?_
    refine lv_iload hx hb dX11_feed_36 (lv_at hl 5 rfl) ?_
    obtain ⟨⟨c_taped_38, a_tape_38⟩, hf38, h⟩ := jbd h
    refine j_callVv (own := RX11) (As := [.int x5]) (rest := []) hx hb hml hown hts hK hA hP hD hS (jc_Model_types l E q_this q_tape q_taken q_strokeMany q_kind q_textMany q_strokes q_texts q_record q_itsEntry q_itsFirst q_text q_lengthAhead q_lengthBehind q_chord q_asked q_way q_wayStrokes q_wayMany q_best q_tried q_plan q_made q_trial q_two c_taped_32 c_entries c_recorded c_translations c_length c_shift c_link c_chordMany c_lastMany c_bestMany c_bestStrokes c_triedMany c_triedStrokes c_planMany c_planStrokes c_madeMany c_madeStrokes c_isClear c_isPlanned a_tape_32 x5 N hf38) gX11_feed_X11_types rfl ⟨rfl, rfl⟩ 1 (by decide +kernel) rfl rfl 0 11 rfl rfl [0, 1] [] [0, 1] rfl rfl rfl rfl rfl rfl rfl hl.1 rfl rfl dX11_feed_38 (fun H locs hP hD hS => ?_)
    replace hP : va_P E.1 vwCl (jw_Model_feed E q_this q_tape q_taken q_strokeMany q_kind q_textMany q_strokes q_texts q_record q_itsEntry q_itsFirst q_text q_lengthAhead q_lengthBehind q_chord q_asked q_way q_wayStrokes q_wayMany q_best q_tried q_plan q_made q_trial q_two c_taped_38 c_entries c_recorded c_translations c_length c_shift c_link c_chordMany c_lastMany c_bestMany c_bestStrokes c_triedMany c_triedStrokes c_planMany c_planStrokes c_madeMany c_madeStrokes c_isClear c_isPlanned a_tape_38) H := hP
    replace hD : va_D A (jw_Model_feed E q_this q_tape q_taken q_strokeMany q_kind q_textMany q_strokes q_texts q_record q_itsEntry q_itsFirst q_text q_lengthAhead q_lengthBehind q_chord q_asked q_way q_wayStrokes q_wayMany q_best q_tried q_plan q_made q_trial q_two c_taped_38 c_entries c_recorded c_translations c_length c_shift c_link c_chordMany c_lastMany c_bestMany c_bestStrokes c_triedMany c_triedStrokes c_planMany c_planStrokes c_madeMany c_madeStrokes c_isClear c_isPlanned a_tape_38) := hD
    refine lv_aload_n hx hb dX11_feed_41 rfl (lv_at hl 0 rfl) ?_
    refine va_get (D := E.1) (ci := 11) (v := .int c_taped_38) (C := RX11) (T := TX11) (N := 43) hx hb hts hin11 hown hK.1 hP 0 rfl rfl 2 (by decide) hk_83 (fun _ h9 => h9) rfl dX11_feed_42 ?_
    exact j_iret (u := (c_taped_38, c_taped_38, a_tape_38)) (rv := (fun T => T.1)) (wv := (fun T => (jw_Model_feed E q_this q_tape q_taken q_strokeMany q_kind q_textMany q_strokes q_texts q_record q_itsEntry q_itsFirst q_text q_lengthAhead q_lengthBehind q_chord q_asked q_way q_wayStrokes q_wayMany q_best q_tried q_plan q_made q_trial q_two T.2.1 c_entries c_recorded c_translations c_length c_shift c_link c_chordMany c_lastMany c_bestMany c_bestStrokes c_triedMany c_triedStrokes c_planMany c_planStrokes c_madeMany c_madeStrokes c_isClear c_isPlanned T.2.2))) h hQ hx hb hr rfl hlocks hS hP hD dX11_feed_45
  · replace h := jif_f hq9 h
    refine lv_iconst (v := (-1)) hx hb dX11_feed_12 (by decide) ?_
    exact j_iret (u := ((-1), c_taped, a_tape)) (rv := (fun T => T.1)) (wv := (fun T => (jw_Model_feed E q_this q_tape q_taken q_strokeMany q_kind q_textMany q_strokes q_texts q_record q_itsEntry q_itsFirst q_text q_lengthAhead q_lengthBehind q_chord q_asked q_way q_wayStrokes q_wayMany q_best q_tried q_plan q_made q_trial q_two T.2.1 c_entries c_recorded c_translations c_length c_shift c_link c_chordMany c_lastMany c_bestMany c_bestStrokes c_triedMany c_triedStrokes c_planMany c_planStrokes c_madeMany c_madeStrokes c_isClear c_isPlanned T.2.2))) h hQ hx hb hr rfl hlocks hS hP hD dX11_feed_13
abbrev jw_Model_takes (E : jE) (q_this q_tape q_taken q_strokeMany q_kind q_textMany q_strokes q_texts q_record q_itsEntry q_itsFirst q_text q_lengthAhead q_lengthBehind q_chord q_asked q_way q_wayStrokes q_wayMany q_best q_tried q_plan q_made q_trial q_two : Nat) (c_taped : Int32) (c_entries : Int32) (c_recorded : Int32) (c_translations : Int32) (c_length : Int32) (c_shift : Int32) (c_link : Int32) (c_chordMany : Int32) (c_lastMany : Int32) (c_bestMany : Int32) (c_bestStrokes : Int32) (c_triedMany : Int32) (c_triedStrokes : Int32) (c_planMany : Int32) (c_planStrokes : Int32) (c_madeMany : Int32) (c_madeStrokes : Int32) (c_isClear : Int32) (c_isPlanned : Int32) (a_taken : (Nat → Int32)) (a_tape : (Nat → Int32)) : va_W := [(q_this, .inr (11, [.ref q_tape, .ref q_taken, .int c_taped, .int c_entries, .ref q_strokeMany, .ref q_kind, .ref q_textMany, .ref q_strokes, .ref q_texts, .ref q_record, .int c_recorded, .ref q_itsEntry, .ref q_itsFirst, .int c_translations, .ref q_text, .ref q_lengthAhead, .ref q_lengthBehind, .int c_length, .int c_shift, .int c_link, .ref q_chord, .int c_chordMany, .int c_lastMany, .ref q_asked, .ref q_way, .ref q_wayStrokes, .ref q_wayMany, .ref q_best, .ref q_tried, .ref q_plan, .ref q_made, .int c_bestMany, .int c_bestStrokes, .int c_triedMany, .int c_triedStrokes, .int c_planMany, .int c_planStrokes, .int c_madeMany, .int c_madeStrokes, .int c_isClear, .int c_isPlanned, .ref q_trial, .ref q_two])), (q_taken, .inl (E.2.1, 80, .inl a_taken)), (q_tape, .inl (E.2.1, 80, .inl a_tape))]
def jr_Model_takes : Room := { frames := 0, cells := 0, slots := 0, locals := 0 }
set_option maxHeartbeats 4000000 in
set_option maxRecDepth 100000 in
theorem jc_Model_takes (l : Launch) (E : jE) (q_this q_tape q_taken q_strokeMany q_kind q_textMany q_strokes q_texts q_record q_itsEntry q_itsFirst q_text q_lengthAhead q_lengthBehind q_chord q_asked q_way q_wayStrokes q_wayMany q_best q_tried q_plan q_made q_trial q_two : Nat) (c_taped : Int32) (c_entries : Int32) (c_recorded : Int32) (c_translations : Int32) (c_length : Int32) (c_shift : Int32) (c_link : Int32) (c_chordMany : Int32) (c_lastMany : Int32) (c_bestMany : Int32) (c_bestStrokes : Int32) (c_triedMany : Int32) (c_triedStrokes : Int32) (c_planMany : Int32) (c_planStrokes : Int32) (c_madeMany : Int32) (c_madeStrokes : Int32) (c_isClear : Int32) (c_isPlanned : Int32) (a_taken : (Nat → Int32)) (a_tape : (Nat → Int32)) (x1 : Int32) (N : Nat) {T : Int32 × (Nat → Int32)} (h : jf_Model_takes N x1 a_tape c_taped a_taken = some T) : jMv l yX11_takes wsX11_takes jr_Model_takes E [.ref q_this, .int x1] (jw_Model_takes E q_this q_tape q_taken q_strokeMany q_kind q_textMany q_strokes q_texts q_record q_itsEntry q_itsFirst q_text q_lengthAhead q_lengthBehind q_chord q_asked q_way q_wayStrokes q_wayMany q_best q_tried q_plan q_made q_trial q_two c_taped c_entries c_recorded c_translations c_length c_shift c_link c_chordMany c_lastMany c_bestMany c_bestStrokes c_triedMany c_triedStrokes c_planMany c_planStrokes c_madeMany c_madeStrokes c_isClear c_isPlanned a_taken a_tape) (jw_Model_takes E q_this q_tape q_taken q_strokeMany q_kind q_textMany q_strokes q_texts q_record q_itsEntry q_itsFirst q_text q_lengthAhead q_lengthBehind q_chord q_asked q_way q_wayStrokes q_wayMany q_best q_tried q_plan q_made q_trial q_two T.1 c_entries c_recorded c_translations c_length c_shift c_link c_chordMany c_lastMany c_bestMany c_bestStrokes c_triedMany c_triedStrokes c_planMany c_planStrokes c_madeMany c_madeStrokes c_isClear c_isPlanned T.2 a_tape) := by
  refine jMv.begin (cc := cX11_takes) (maxL := 3) (ret := none) (by decide) rfl (Nat.le_of_ble_eq_true rfl) ?_
  intro p e s m args below meth c A ls Q hQ hx hb hr hml hown hlocks hts hK hA hP hD hS hl
  replace hown : s.vm.findClass RX11 = some m.cls := hown
  replace hl : lv_has ls 3 [(0, .ref q_this), (1, .int x1)] := hl
  have hin11 : ∀ w ∈ u_ws RX11 TX11 43, w ∈ wsX11_takes := by decide +kernel
  have hk_7 := hts (.fieldLink RX11 7 "StenoRoomModel" "tape" "[B") (by decide +kernel)
  have hk_13 := hts (.fieldLink RX11 13 "StenoRoomModel" "taken" "[B") (by decide +kernel)
  have hk_83 := hts (.fieldLink RX11 83 "StenoRoomModel" "taped" "I") (by decide +kernel)
  have kb25 : ∀ (c_taped : Int32) (a_taken : (Nat → Int32)) (H : Heap) (locs : List Loc) (ls : Array Slot), jf_Model_takes_b25 c_taped a_taken = some T → va_P E.1 vwCl (jw_Model_takes E q_this q_tape q_taken q_strokeMany q_kind q_textMany q_strokes q_texts q_record q_itsEntry q_itsFirst q_text q_lengthAhead q_lengthBehind q_chord q_asked q_way q_wayStrokes q_wayMany q_best q_tried q_plan q_made q_trial q_two c_taped c_entries c_recorded c_translations c_length c_shift c_link c_chordMany c_lastMany c_bestMany c_bestStrokes c_triedMany c_triedStrokes c_planMany c_planStrokes c_madeMany c_madeStrokes c_isClear c_isPlanned a_taken a_tape) H → va_D A (jw_Model_takes E q_this q_tape q_taken q_strokeMany q_kind q_textMany q_strokes q_texts q_record q_itsEntry q_itsFirst q_text q_lengthAhead q_lengthBehind q_chord q_asked q_way q_wayStrokes q_wayMany q_best q_tried q_plan q_made q_trial q_two c_taped c_entries c_recorded c_translations c_length c_shift c_link c_chordMany c_lastMany c_bestMany c_bestStrokes c_triedMany c_triedStrokes c_planMany c_planStrokes c_madeMany c_madeStrokes c_isClear c_isPlanned a_taken a_tape) → va_S A s.heap H locs → lv_has ls 3 [(0, .ref q_this)] → W p l e jr_Model_takes s m args below meth c H locs 0 0 Q (F0 m 25 ls []) := by
    intro  c_taped a_taken H locs ls h hP hD hS hl
    unfold jf_Model_takes_b25 at h
    refine lv_aload_n hx hb dX11_takes_25 rfl (lv_at hl 0 rfl) ?_
    refine lv_iconst (v := 0) hx hb dX11_takes_26 (by decide) ?_
    refine va_put (D := E.1) (ci := 11) (v := .int 0) (ty := .int) (C := RX11) (T := TX11) (N := 43) hx hb hts hin11 tyX11 tyX11_ok nmX11 hown hK.1 hP hD hS 0 rfl rfl 2 (by decide) hk_83 (fun _ h9 => h9) rfl (by decide +kernel) rfl rfl (Nat.le_of_ble_eq_true rfl) dX11_takes_27 (fun H locs hP hD hS => ?_)
    replace hP : va_P E.1 vwCl (jw_Model_takes E q_this q_tape q_taken q_strokeMany q_kind q_textMany q_strokes q_texts q_record q_itsEntry q_itsFirst q_text q_lengthAhead q_lengthBehind q_chord q_asked q_way q_wayStrokes q_wayMany q_best q_tried q_plan q_made q_trial q_two 0 c_entries c_recorded c_translations c_length c_shift c_link c_chordMany c_lastMany c_bestMany c_bestStrokes c_triedMany c_triedStrokes c_planMany c_planStrokes c_madeMany c_madeStrokes c_isClear c_isPlanned a_taken a_tape) H := hP
    replace hD : va_D A (jw_Model_takes E q_this q_tape q_taken q_strokeMany q_kind q_textMany q_strokes q_texts q_record q_itsEntry q_itsFirst q_text q_lengthAhead q_lengthBehind q_chord q_asked q_way q_wayStrokes q_wayMany q_best q_tried q_plan q_made q_trial q_two 0 c_entries c_recorded c_translations c_length c_shift c_link c_chordMany c_lastMany c_bestMany c_bestStrokes c_triedMany c_triedStrokes c_planMany c_planStrokes c_madeMany c_madeStrokes c_isClear c_isPlanned a_taken a_tape) := hD
    exact j_vret (u := (0, a_taken)) (wv := (fun T => (jw_Model_takes E q_this q_tape q_taken q_strokeMany q_kind q_textMany q_strokes q_texts q_record q_itsEntry q_itsFirst q_text q_lengthAhead q_lengthBehind q_chord q_asked q_way q_wayStrokes q_wayMany q_best q_tried q_plan q_made q_trial q_two T.1 c_entries c_recorded c_translations c_length c_shift c_link c_chordMany c_lastMany c_bestMany c_bestStrokes c_triedMany c_triedStrokes c_planMany c_planStrokes c_madeMany c_madeStrokes c_isClear c_isPlanned T.2 a_tape))) h hQ hx hb hr hlocks hS hP hD dX11_takes_30
  have kb2 : ∀ (n : Nat) (x2 : Int32) (c_taped : Int32) (a_taken : (Nat → Int32)) (H : Heap) (locs : List Loc) (ls : Array Slot), jf_Model_takes_b2 x1 a_tape n x2 c_taped a_taken = some T → va_P E.1 vwCl (jw_Model_takes E q_this q_tape q_taken q_strokeMany q_kind q_textMany q_strokes q_texts q_record q_itsEntry q_itsFirst q_text q_lengthAhead q_lengthBehind q_chord q_asked q_way q_wayStrokes q_wayMany q_best q_tried q_plan q_made q_trial q_two c_taped c_entries c_recorded c_translations c_length c_shift c_link c_chordMany c_lastMany c_bestMany c_bestStrokes c_triedMany c_triedStrokes c_planMany c_planStrokes c_madeMany c_madeStrokes c_isClear c_isPlanned a_taken a_tape) H → va_D A (jw_Model_takes E q_this q_tape q_taken q_strokeMany q_kind q_textMany q_strokes q_texts q_record q_itsEntry q_itsFirst q_text q_lengthAhead q_lengthBehind q_chord q_asked q_way q_wayStrokes q_wayMany q_best q_tried q_plan q_made q_trial q_two c_taped c_entries c_recorded c_translations c_length c_shift c_link c_chordMany c_lastMany c_bestMany c_bestStrokes c_triedMany c_triedStrokes c_planMany c_planStrokes c_madeMany c_madeStrokes c_isClear c_isPlanned a_taken a_tape) → va_S A s.heap H locs → lv_has ls 3 [(0, .ref q_this), (1, .int x1), (2, .int x2)] → W p l e jr_Model_takes s m args below meth c H locs 0 0 Q (F0 m 2 ls []) := by
    intro n
    induction n with
    | zero => intro x2 c_taped a_taken H locs ls h; exact j_none (α := Int32 × (Nat → Int32)) h
    | succ n ih =>
      intro x2 c_taped a_taken H locs ls h hP hD hS hl
      rw [jf_Model_takes_b2] at h
      refine lv_iload_n hx hb dX11_takes_2 rfl (lv_at hl 2 rfl) ?_
      refine lv_iload_n hx hb dX11_takes_3 rfl (lv_at hl 1 rfl) ?_
      refine lv_icmp_ge (tgt := 25) hx hb dX11_takes_4 (by decide) (fun hq4 => ?_) (fun hq4 => ?_)
      · replace h := jif_t hq4 h
        exact kb25   c_taped a_taken _ _ _ h hP hD hS (lv_sub hl [0] rfl)
      · replace h := jif_f hq4 h
        refine lv_aload_n hx hb dX11_takes_7 rfl (lv_at hl 0 rfl) ?_
        refine va_get (D := E.1) (ci := 11) (v := .ref q_taken) (C := RX11) (T := TX11) (N := 43) hx hb hts hin11 hown hK.1 hP 0 rfl rfl 1 (by decide) hk_13 (fun _ h9 => h9) rfl dX11_takes_8 ?_
        refine lv_iload_n hx hb dX11_takes_11 rfl (lv_at hl 2 rfl) ?_
        refine lv_aload_n hx hb dX11_takes_12 rfl (lv_at hl 0 rfl) ?_
        refine va_get (D := E.1) (ci := 11) (v := .ref q_tape) (C := RX11) (T := TX11) (N := 43) hx hb hts hin11 hown hK.1 hP 0 rfl rfl 0 (by decide) hk_7 (fun _ h9 => h9) rfl dX11_takes_13 ?_
        refine lv_iload_n hx hb dX11_takes_16 rfl (lv_at hl 2 rfl) ?_
        obtain ⟨g17, h⟩ := jga_e h
        refine va_bald hx hb hK.1 hP 2 0 rfl rfl g17 dX11_takes_17 ?_
        obtain ⟨g18, h⟩ := jga_e h
        refine va_bast hx hb hK.1 hP hD hS 1 0 rfl rfl g18 dX11_takes_18 (fun H locs hP hD hS => ?_)
        replace hP : va_P E.1 vwCl (jw_Model_takes E q_this q_tape q_taken q_strokeMany q_kind q_textMany q_strokes q_texts q_record q_itsEntry q_itsFirst q_text q_lengthAhead q_lengthBehind q_chord q_asked q_way q_wayStrokes q_wayMany q_best q_tried q_plan q_made q_trial q_two c_taped c_entries c_recorded c_translations c_length c_shift c_link c_chordMany c_lastMany c_bestMany c_bestStrokes c_triedMany c_triedStrokes c_planMany c_planStrokes c_madeMany c_madeStrokes c_isClear c_isPlanned (upd a_taken x2.toNatClampNeg (vp_nar .byte (a_tape x2.toNatClampNeg))) a_tape) H := hP
        replace hD : va_D A (jw_Model_takes E q_this q_tape q_taken q_strokeMany q_kind q_textMany q_strokes q_texts q_record q_itsEntry q_itsFirst q_text q_lengthAhead q_lengthBehind q_chord q_asked q_way q_wayStrokes q_wayMany q_best q_tried q_plan q_made q_trial q_two c_taped c_entries c_recorded c_translations c_length c_shift c_link c_chordMany c_lastMany c_bestMany c_bestStrokes c_triedMany c_triedStrokes c_planMany c_planStrokes c_madeMany c_madeStrokes c_isClear c_isPlanned (upd a_taken x2.toNatClampNeg (vp_nar .byte (a_tape x2.toNatClampNeg))) a_tape) := hD
        refine lv_iinc (v := (x2 + 1)) (lv' := [(2, .int (x2 + 1)), (0, .ref q_this), (1, .int x1)]) hx hb dX11_takes_19 hl (k := 2) rfl rfl (by decide) rfl (fun ls hl => ?_)
        refine lv_goto (tgt := 2) hx hb dX11_takes_22 (by decide) ?_
        exact ih (x2 + 1) c_taped (upd a_taken x2.toNatClampNeg (vp_nar .byte (a_tape x2.toNatClampNeg))) _ _ _ h hP hD hS (lv_sub hl [1, 2, 0] rfl)
  unfold jf_Model_takes at h
  refine lv_iconst (v := 0) hx hb dX11_takes_0 (by decide) ?_
  refine lv_istore_n (lv' := [(2, .int 0), (0, .ref q_this), (1, .int x1)]) hx hb dX11_takes_1 rfl hl (by decide) rfl (fun ls hl => ?_)
  exact kb2  N 0 c_taped a_taken _ _ _ h hP hD hS (lv_sub hl [1, 2, 0] rfl)
abbrev jw_Model_isStroke (E : jE) : va_W := []
def jr_Model_isStroke : Room := { frames := 0, cells := 0, slots := 0, locals := 0 }
set_option maxHeartbeats 4000000 in
set_option maxRecDepth 100000 in
theorem jc_Model_isStroke (l : Launch) (E : jE) (x0 : Int32) (N : Nat) {T : Int32} (h : jf_Model_isStroke x0 = some T) : jMi l yX11_isStroke wsX11_isStroke jr_Model_isStroke E [.int x0] (jw_Model_isStroke E) (T) (jw_Model_isStroke E) := by
  refine jMi.begin (cc := cX11_isStroke) (maxL := 1) (ret := (some .boolean)) (by decide) rfl (Nat.le_of_ble_eq_true rfl) ?_
  intro p e s m args below meth c A ls Q hQ hx hb hr hml hown hlocks hts hK hA hP hD hS hl
  replace hown : s.vm.findClass RX11 = some m.cls := hown
  replace hl : lv_has ls 1 [(0, .int x0)] := hl
  unfold jf_Model_isStroke at h
  refine lv_iload_n hx hb dX11_isStroke_0 rfl (lv_at hl 0 rfl) ?_
  refine lv_if_le (tgt := 14) hx hb dX11_isStroke_1 (by decide) (fun hq1 => ?_) (fun hq1 => ?_)
  · replace h := jif_t hq1 h
    refine lv_iconst (v := 0) hx hb dX11_isStroke_14 (by decide) ?_
    exact j_iret (u := 0) (rv := (fun T => T)) (wv := (fun _ => (jw_Model_isStroke E))) h hQ hx hb hr jb_0 hlocks hS hP hD dX11_isStroke_15
  · replace h := jif_f hq1 h
    refine lv_iload_n hx hb dX11_isStroke_4 rfl (lv_at hl 0 rfl) ?_
    refine lv_ldc (v := 4194304) hx hb hown (hts (.constant RX11 91 4194304) (by decide +kernel)) dX11_isStroke_5 ?_
    refine lv_icmp_ge (tgt := 14) hx hb dX11_isStroke_7 (by decide) (fun hq7 => ?_) (fun hq7 => ?_)
    · replace h := jif_t hq7 h
      refine lv_iconst (v := 0) hx hb dX11_isStroke_14 (by decide) ?_
      exact j_iret (u := 0) (rv := (fun T => T)) (wv := (fun _ => (jw_Model_isStroke E))) h hQ hx hb hr jb_0 hlocks hS hP hD dX11_isStroke_15
    · replace h := jif_f hq7 h
      refine lv_iconst (v := 1) hx hb dX11_isStroke_10 (by decide) ?_
      refine lv_goto (tgt := 15) hx hb dX11_isStroke_11 (by decide) ?_
      exact j_iret (u := 1) (rv := (fun T => T)) (wv := (fun _ => (jw_Model_isStroke E))) h hQ hx hb hr jb_1 hlocks hS hP hD dX11_isStroke_15
abbrev jw_Model_lays (E : jE) (q_this q_tape q_taken q_strokeMany q_kind q_textMany q_strokes q_texts q_record q_itsEntry q_itsFirst q_text q_lengthAhead q_lengthBehind q_chord q_asked q_way q_wayStrokes q_wayMany q_best q_tried q_plan q_made q_trial q_two : Nat) (c_taped : Int32) (c_entries : Int32) (c_recorded : Int32) (c_translations : Int32) (c_length : Int32) (c_shift : Int32) (c_link : Int32) (c_chordMany : Int32) (c_lastMany : Int32) (c_bestMany : Int32) (c_bestStrokes : Int32) (c_triedMany : Int32) (c_triedStrokes : Int32) (c_planMany : Int32) (c_planStrokes : Int32) (c_madeMany : Int32) (c_madeStrokes : Int32) (c_isClear : Int32) (c_isPlanned : Int32) (a_strokeMany : (Nat → Int32)) (a_strokes : (Nat → Int32)) : va_W := [(q_this, .inr (11, [.ref q_tape, .ref q_taken, .int c_taped, .int c_entries, .ref q_strokeMany, .ref q_kind, .ref q_textMany, .ref q_strokes, .ref q_texts, .ref q_record, .int c_recorded, .ref q_itsEntry, .ref q_itsFirst, .int c_translations, .ref q_text, .ref q_lengthAhead, .ref q_lengthBehind, .int c_length, .int c_shift, .int c_link, .ref q_chord, .int c_chordMany, .int c_lastMany, .ref q_asked, .ref q_way, .ref q_wayStrokes, .ref q_wayMany, .ref q_best, .ref q_tried, .ref q_plan, .ref q_made, .int c_bestMany, .int c_bestStrokes, .int c_triedMany, .int c_triedStrokes, .int c_planMany, .int c_planStrokes, .int c_madeMany, .int c_madeStrokes, .int c_isClear, .int c_isPlanned, .ref q_trial, .ref q_two])), (q_strokeMany, .inl (E.2.2.1, 61, .inl a_strokeMany)), (q_strokes, .inl (E.2.2.1, 305, .inl a_strokes))]
def jr_Model_lays : Room := { frames := 0, cells := 0, slots := 0, locals := 0 }
set_option maxHeartbeats 4000000 in
set_option maxRecDepth 100000 in
theorem jc_Model_lays (l : Launch) (E : jE) (q_this q_tape q_taken q_strokeMany q_kind q_textMany q_strokes q_texts q_record q_itsEntry q_itsFirst q_text q_lengthAhead q_lengthBehind q_chord q_asked q_way q_wayStrokes q_wayMany q_best q_tried q_plan q_made q_trial q_two : Nat) (c_taped : Int32) (c_entries : Int32) (c_recorded : Int32) (c_translations : Int32) (c_length : Int32) (c_shift : Int32) (c_link : Int32) (c_chordMany : Int32) (c_lastMany : Int32) (c_bestMany : Int32) (c_bestStrokes : Int32) (c_triedMany : Int32) (c_triedStrokes : Int32) (c_planMany : Int32) (c_planStrokes : Int32) (c_madeMany : Int32) (c_madeStrokes : Int32) (c_isClear : Int32) (c_isPlanned : Int32) (a_strokeMany : (Nat → Int32)) (a_strokes : (Nat → Int32)) (x1 : Int32) (x2 : Int32) (N : Nat) {T : (Nat → Int32) × (Nat → Int32)} (h : jf_Model_lays x1 x2 c_entries a_strokeMany a_strokes = some T) : jMv l yX11_lays wsX11_lays jr_Model_lays E [.ref q_this, .int x1, .int x2] (jw_Model_lays E q_this q_tape q_taken q_strokeMany q_kind q_textMany q_strokes q_texts q_record q_itsEntry q_itsFirst q_text q_lengthAhead q_lengthBehind q_chord q_asked q_way q_wayStrokes q_wayMany q_best q_tried q_plan q_made q_trial q_two c_taped c_entries c_recorded c_translations c_length c_shift c_link c_chordMany c_lastMany c_bestMany c_bestStrokes c_triedMany c_triedStrokes c_planMany c_planStrokes c_madeMany c_madeStrokes c_isClear c_isPlanned a_strokeMany a_strokes) (jw_Model_lays E q_this q_tape q_taken q_strokeMany q_kind q_textMany q_strokes q_texts q_record q_itsEntry q_itsFirst q_text q_lengthAhead q_lengthBehind q_chord q_asked q_way q_wayStrokes q_wayMany q_best q_tried q_plan q_made q_trial q_two c_taped c_entries c_recorded c_translations c_length c_shift c_link c_chordMany c_lastMany c_bestMany c_bestStrokes c_triedMany c_triedStrokes c_planMany c_planStrokes c_madeMany c_madeStrokes c_isClear c_isPlanned T.1 T.2) := by
  refine jMv.begin (cc := cX11_lays) (maxL := 3) (ret := none) (by decide) rfl (Nat.le_of_ble_eq_true rfl) ?_
  intro p e s m args below meth c A ls Q hQ hx hb hr hml hown hlocks hts hK hA hP hD hS hl
  replace hown : s.vm.findClass RX11 = some m.cls := hown
  replace hl : lv_has ls 3 [(0, .ref q_this), (1, .int x1), (2, .int x2)] := hl
  have hin11 : ∀ w ∈ u_ws RX11 TX11 43, w ∈ wsX11_lays := by decide +kernel
  have hk_16 := hts (.fieldLink RX11 16 "StenoRoomModel" "strokeMany" "[I") (by decide +kernel)
  have hk_26 := hts (.fieldLink RX11 26 "StenoRoomModel" "strokes" "[I") (by decide +kernel)
  have hk_92 := hts (.fieldLink RX11 92 "StenoRoomModel" "entries" "I") (by decide +kernel)
  unfold jf_Model_lays at h
  refine lv_aload_n hx hb dX11_lays_0 rfl (lv_at hl 0 rfl) ?_
  refine va_get (D := E.1) (ci := 11) (v := .ref q_strokes) (C := RX11) (T := TX11) (N := 43) hx hb hts hin11 hown hK.1 hP 0 rfl rfl 7 (by decide) hk_26 (fun _ h9 => h9) rfl dX11_lays_1 ?_
  refine lv_iconst (v := 5) hx hb dX11_lays_4 (by decide) ?_
  refine lv_aload_n hx hb dX11_lays_5 rfl (lv_at hl 0 rfl) ?_
  refine va_get (D := E.1) (ci := 11) (v := .int c_entries) (C := RX11) (T := TX11) (N := 43) hx hb hts hin11 hown hK.1 hP 0 rfl rfl 3 (by decide) hk_92 (fun _ h9 => h9) rfl dX11_lays_6 ?_
  refine lv_imul hx hb dX11_lays_9 ?_
  refine lv_iload_n hx hb dX11_lays_10 rfl (lv_at hl 1 rfl) ?_
  refine lv_iadd hx hb dX11_lays_11 ?_
  refine lv_iload_n hx hb dX11_lays_12 rfl (lv_at hl 2 rfl) ?_
  obtain ⟨g13, h⟩ := jga_e h
  refine va_iast hx hb hK.1 hP hD hS 2 1 rfl rfl g13 dX11_lays_13 (fun H locs hP hD hS => ?_)
  replace hP : va_P E.1 vwCl (jw_Model_lays E q_this q_tape q_taken q_strokeMany q_kind q_textMany q_strokes q_texts q_record q_itsEntry q_itsFirst q_text q_lengthAhead q_lengthBehind q_chord q_asked q_way q_wayStrokes q_wayMany q_best q_tried q_plan q_made q_trial q_two c_taped c_entries c_recorded c_translations c_length c_shift c_link c_chordMany c_lastMany c_bestMany c_bestStrokes c_triedMany c_triedStrokes c_planMany c_planStrokes c_madeMany c_madeStrokes c_isClear c_isPlanned a_strokeMany (upd a_strokes ((5 * c_entries) + x1).toNatClampNeg x2)) H := hP
  replace hD : va_D A (jw_Model_lays E q_this q_tape q_taken q_strokeMany q_kind q_textMany q_strokes q_texts q_record q_itsEntry q_itsFirst q_text q_lengthAhead q_lengthBehind q_chord q_asked q_way q_wayStrokes q_wayMany q_best q_tried q_plan q_made q_trial q_two c_taped c_entries c_recorded c_translations c_length c_shift c_link c_chordMany c_lastMany c_bestMany c_bestStrokes c_triedMany c_triedStrokes c_planMany c_planStrokes c_madeMany c_madeStrokes c_isClear c_isPlanned a_strokeMany (upd a_strokes ((5 * c_entries) + x1).toNatClampNeg x2)) := hD
  refine lv_iload_n hx hb dX11_lays_14 rfl (lv_at hl 2 rfl) ?_
  refine lv_if_eq (tgt := 30) hx hb dX11_lays_15 (by decide) (fun hq15 => ?_) (fun hq15 => ?_)
  · replace h := jif_t hq15 h
    exact j_vret (u := (a_strokeMany, (upd a_strokes ((5 * c_entries) + x1).toNatClampNeg x2))) (wv := (fun T => (jw_Model_lays E q_this q_tape q_taken q_strokeMany q_kind q_textMany q_strokes q_texts q_record q_itsEntry q_itsFirst q_text q_lengthAhead q_lengthBehind q_chord q_asked q_way q_wayStrokes q_wayMany q_best q_tried q_plan q_made q_trial q_two c_taped c_entries c_recorded c_translations c_length c_shift c_link c_chordMany c_lastMany c_bestMany c_bestStrokes c_triedMany c_triedStrokes c_planMany c_planStrokes c_madeMany c_madeStrokes c_isClear c_isPlanned T.1 T.2))) h hQ hx hb hr hlocks hS hP hD dX11_lays_30
  · replace h := jif_f hq15 h
    refine lv_aload_n hx hb dX11_lays_18 rfl (lv_at hl 0 rfl) ?_
    refine va_get (D := E.1) (ci := 11) (v := .ref q_strokeMany) (C := RX11) (T := TX11) (N := 43) hx hb hts hin11 hown hK.1 hP 0 rfl rfl 4 (by decide) hk_16 (fun _ h9 => h9) rfl dX11_lays_19 ?_
    refine lv_aload_n hx hb dX11_lays_22 rfl (lv_at hl 0 rfl) ?_
    refine va_get (D := E.1) (ci := 11) (v := .int c_entries) (C := RX11) (T := TX11) (N := 43) hx hb hts hin11 hown hK.1 hP 0 rfl rfl 3 (by decide) hk_92 (fun _ h9 => h9) rfl dX11_lays_23 ?_
    refine lv_iload_n hx hb dX11_lays_26 rfl (lv_at hl 1 rfl) ?_
    refine lv_iconst (v := 1) hx hb dX11_lays_27 (by decide) ?_
    refine lv_iadd hx hb dX11_lays_28 ?_
    obtain ⟨g29, h⟩ := jga_e h
    refine va_iast hx hb hK.1 hP hD hS 1 1 rfl rfl g29 dX11_lays_29 (fun H locs hP hD hS => ?_)
    replace hP : va_P E.1 vwCl (jw_Model_lays E q_this q_tape q_taken q_strokeMany q_kind q_textMany q_strokes q_texts q_record q_itsEntry q_itsFirst q_text q_lengthAhead q_lengthBehind q_chord q_asked q_way q_wayStrokes q_wayMany q_best q_tried q_plan q_made q_trial q_two c_taped c_entries c_recorded c_translations c_length c_shift c_link c_chordMany c_lastMany c_bestMany c_bestStrokes c_triedMany c_triedStrokes c_planMany c_planStrokes c_madeMany c_madeStrokes c_isClear c_isPlanned (upd a_strokeMany c_entries.toNatClampNeg (x1 + 1)) (upd a_strokes ((5 * c_entries) + x1).toNatClampNeg x2)) H := hP
    replace hD : va_D A (jw_Model_lays E q_this q_tape q_taken q_strokeMany q_kind q_textMany q_strokes q_texts q_record q_itsEntry q_itsFirst q_text q_lengthAhead q_lengthBehind q_chord q_asked q_way q_wayStrokes q_wayMany q_best q_tried q_plan q_made q_trial q_two c_taped c_entries c_recorded c_translations c_length c_shift c_link c_chordMany c_lastMany c_bestMany c_bestStrokes c_triedMany c_triedStrokes c_planMany c_planStrokes c_madeMany c_madeStrokes c_isClear c_isPlanned (upd a_strokeMany c_entries.toNatClampNeg (x1 + 1)) (upd a_strokes ((5 * c_entries) + x1).toNatClampNeg x2)) := hD
    exact j_vret (u := ((upd a_strokeMany c_entries.toNatClampNeg (x1 + 1)), (upd a_strokes ((5 * c_entries) + x1).toNatClampNeg x2))) (wv := (fun T => (jw_Model_lays E q_this q_tape q_taken q_strokeMany q_kind q_textMany q_strokes q_texts q_record q_itsEntry q_itsFirst q_text q_lengthAhead q_lengthBehind q_chord q_asked q_way q_wayStrokes q_wayMany q_best q_tried q_plan q_made q_trial q_two c_taped c_entries c_recorded c_translations c_length c_shift c_link c_chordMany c_lastMany c_bestMany c_bestStrokes c_triedMany c_triedStrokes c_planMany c_planStrokes c_madeMany c_madeStrokes c_isClear c_isPlanned T.1 T.2))) h hQ hx hb hr hlocks hS hP hD dX11_lays_30
abbrev jw_Model_isSize (E : jE) : va_W := []
def jr_Model_isSize : Room := { frames := 0, cells := 0, slots := 0, locals := 0 }
set_option maxHeartbeats 4000000 in
set_option maxRecDepth 100000 in
theorem jc_Model_isSize (l : Launch) (E : jE) (x0 : Int32) (x1 : Int32) (N : Nat) {T : Int32} (h : jf_Model_isSize x0 x1 = some T) : jMi l yX11_isSize wsX11_isSize jr_Model_isSize E [.int x0, .int x1] (jw_Model_isSize E) (T) (jw_Model_isSize E) := by
  refine jMi.begin (cc := cX11_isSize) (maxL := 2) (ret := (some .boolean)) (by decide) rfl (Nat.le_of_ble_eq_true rfl) ?_
  intro p e s m args below meth c A ls Q hQ hx hb hr hml hown hlocks hts hK hA hP hD hS hl
  replace hown : s.vm.findClass RX11 = some m.cls := hown
  replace hl : lv_has ls 2 [(0, .int x0), (1, .int x1)] := hl
  have kb10 : ∀ (H : Heap) (locs : List Loc) (ls : Array Slot), jf_Model_isSize_b10 x1 = some T → va_P E.1 vwCl (jw_Model_isSize E) H → va_D A (jw_Model_isSize E) → va_S A s.heap H locs → lv_has ls 2 [(1, .int x1)] → W p l e jr_Model_isSize s m args below meth c H locs 0 0 Q (F0 m 10 ls []) := by
    intro   H locs ls h hP hD hS hl
    unfold jf_Model_isSize_b10 at h
    refine lv_iload_n hx hb dX11_isSize_10 rfl (lv_at hl 0 rfl) ?_
    refine lv_iconst (v := 1) hx hb dX11_isSize_11 (by decide) ?_
    refine lv_icmp_ne (tgt := 19) hx hb dX11_isSize_12 (by decide) (fun hq12 => ?_) (fun hq12 => ?_)
    · replace h := jif_f hq12 h
      refine lv_iconst (v := 0) hx hb dX11_isSize_19 (by decide) ?_
      exact j_iret (u := 0) (rv := (fun T => T)) (wv := (fun _ => (jw_Model_isSize E))) h hQ hx hb hr jb_0 hlocks hS hP hD dX11_isSize_20
    · replace h := jif_t hq12 h
      refine lv_iconst (v := 1) hx hb dX11_isSize_15 (by decide) ?_
      refine lv_goto (tgt := 20) hx hb dX11_isSize_16 (by decide) ?_
      exact j_iret (u := 1) (rv := (fun T => T)) (wv := (fun _ => (jw_Model_isSize E))) h hQ hx hb hr jb_1 hlocks hS hP hD dX11_isSize_20
  unfold jf_Model_isSize at h
  refine lv_iload_n hx hb dX11_isSize_0 rfl (lv_at hl 0 rfl) ?_
  refine lv_iconst (v := 3) hx hb dX11_isSize_1 (by decide) ?_
  refine lv_icmp_eq (tgt := 10) hx hb dX11_isSize_2 (by decide) (fun hq2 => ?_) (fun hq2 => ?_)
  · replace h := jif_t hq2 h
    exact kb10    _ _ _ h hP hD hS (lv_sub hl [1] rfl)
  · replace h := jif_f hq2 h
    refine lv_iload_n hx hb dX11_isSize_5 rfl (lv_at hl 0 rfl) ?_
    refine lv_iconst (v := 4) hx hb dX11_isSize_6 (by decide) ?_
    refine lv_icmp_ne (tgt := 21) hx hb dX11_isSize_7 (by decide) (fun hq7 => ?_) (fun hq7 => ?_)
    · replace h := jif_f hq7 h
      refine lv_iload_n hx hb dX11_isSize_21 rfl (lv_at hl 0 rfl) ?_
      refine lv_bipush (v := 6) hx hb dX11_isSize_22 (by decide) ?_
      refine lv_icmp_lt (tgt := 39) hx hb dX11_isSize_24 (by decide) (fun hq24 => ?_) (fun hq24 => ?_)
      · replace h := jif_t hq24 h
        refine lv_iload_n hx hb dX11_isSize_39 rfl (lv_at hl 1 rfl) ?_
        refine lv_iconst (v := 1) hx hb dX11_isSize_40 (by decide) ?_
        refine lv_icmp_lt (tgt := 54) hx hb dX11_isSize_41 (by decide) (fun hq41 => ?_) (fun hq41 => ?_)
        · replace h := jif_t hq41 h
          refine lv_iconst (v := 0) hx hb dX11_isSize_54 (by decide) ?_
          exact j_iret (u := 0) (rv := (fun T => T)) (wv := (fun _ => (jw_Model_isSize E))) h hQ hx hb hr jb_0 hlocks hS hP hD dX11_isSize_55
        · replace h := jif_f hq41 h
          refine lv_iload_n hx hb dX11_isSize_44 rfl (lv_at hl 1 rfl) ?_
          refine lv_bipush (v := 16) hx hb dX11_isSize_45 (by decide) ?_
          refine lv_icmp_gt (tgt := 54) hx hb dX11_isSize_47 (by decide) (fun hq47 => ?_) (fun hq47 => ?_)
          · replace h := jif_t hq47 h
            refine lv_iconst (v := 0) hx hb dX11_isSize_54 (by decide) ?_
            exact j_iret (u := 0) (rv := (fun T => T)) (wv := (fun _ => (jw_Model_isSize E))) h hQ hx hb hr jb_0 hlocks hS hP hD dX11_isSize_55
          · replace h := jif_f hq47 h
            refine lv_iconst (v := 1) hx hb dX11_isSize_50 (by decide) ?_
            refine lv_goto (tgt := 55) hx hb dX11_isSize_51 (by decide) ?_
            exact j_iret (u := 1) (rv := (fun T => T)) (wv := (fun _ => (jw_Model_isSize E))) h hQ hx hb hr jb_1 hlocks hS hP hD dX11_isSize_55
      · replace h := jif_f hq24 h
        refine lv_iload_n hx hb dX11_isSize_27 rfl (lv_at hl 1 rfl) ?_
        refine lv_if_ne (tgt := 35) hx hb dX11_isSize_28 (by decide) (fun hq28 => ?_) (fun hq28 => ?_)
        · replace h := jif_f hq28 h
          refine lv_iconst (v := 0) hx hb dX11_isSize_35 (by decide) ?_
          refine lv_goto (tgt := 55) hx hb dX11_isSize_36 (by decide) ?_
          exact j_iret (u := 0) (rv := (fun T => T)) (wv := (fun _ => (jw_Model_isSize E))) h hQ hx hb hr jb_0 hlocks hS hP hD dX11_isSize_55
        · replace h := jif_t hq28 h
          refine lv_iconst (v := 1) hx hb dX11_isSize_31 (by decide) ?_
          refine lv_goto (tgt := 55) hx hb dX11_isSize_32 (by decide) ?_
          exact j_iret (u := 1) (rv := (fun T => T)) (wv := (fun _ => (jw_Model_isSize E))) h hQ hx hb hr jb_1 hlocks hS hP hD dX11_isSize_55
    · replace h := jif_t hq7 h
      exact kb10    _ _ _ h hP hD hS (lv_sub hl [1] rfl)
abbrev jw_Model_isSmall (E : jE) : va_W := []
def jr_Model_isSmall : Room := { frames := 0, cells := 0, slots := 0, locals := 0 }
set_option maxHeartbeats 4000000 in
set_option maxRecDepth 100000 in
theorem jc_Model_isSmall (l : Launch) (E : jE) (x0 : Int32) (N : Nat) {T : Int32} (h : jf_Model_isSmall x0 = some T) : jMi l yX11_isSmall wsX11_isSmall jr_Model_isSmall E [.int x0] (jw_Model_isSmall E) (T) (jw_Model_isSmall E) := by
  refine jMi.begin (cc := cX11_isSmall) (maxL := 1) (ret := (some .boolean)) (by decide) rfl (Nat.le_of_ble_eq_true rfl) ?_
  intro p e s m args below meth c A ls Q hQ hx hb hr hml hown hlocks hts hK hA hP hD hS hl
  replace hown : s.vm.findClass RX11 = some m.cls := hown
  replace hl : lv_has ls 1 [(0, .int x0)] := hl
  unfold jf_Model_isSmall at h
  refine lv_iload_n hx hb dX11_isSmall_0 rfl (lv_at hl 0 rfl) ?_
  refine lv_bipush (v := 97) hx hb dX11_isSmall_1 (by decide) ?_
  refine lv_icmp_lt (tgt := 16) hx hb dX11_isSmall_3 (by decide) (fun hq3 => ?_) (fun hq3 => ?_)
  · replace h := jif_t hq3 h
    refine lv_iconst (v := 0) hx hb dX11_isSmall_16 (by decide) ?_
    exact j_iret (u := 0) (rv := (fun T => T)) (wv := (fun _ => (jw_Model_isSmall E))) h hQ hx hb hr jb_0 hlocks hS hP hD dX11_isSmall_17
  · replace h := jif_f hq3 h
    refine lv_iload_n hx hb dX11_isSmall_6 rfl (lv_at hl 0 rfl) ?_
    refine lv_bipush (v := 122) hx hb dX11_isSmall_7 (by decide) ?_
    refine lv_icmp_gt (tgt := 16) hx hb dX11_isSmall_9 (by decide) (fun hq9 => ?_) (fun hq9 => ?_)
    · replace h := jif_t hq9 h
      refine lv_iconst (v := 0) hx hb dX11_isSmall_16 (by decide) ?_
      exact j_iret (u := 0) (rv := (fun T => T)) (wv := (fun _ => (jw_Model_isSmall E))) h hQ hx hb hr jb_0 hlocks hS hP hD dX11_isSmall_17
    · replace h := jif_f hq9 h
      refine lv_iconst (v := 1) hx hb dX11_isSmall_12 (by decide) ?_
      refine lv_goto (tgt := 17) hx hb dX11_isSmall_13 (by decide) ?_
      exact j_iret (u := 1) (rv := (fun T => T)) (wv := (fun _ => (jw_Model_isSmall E))) h hQ hx hb hr jb_1 hlocks hS hP hD dX11_isSmall_17
abbrev jw_Model_isByte (E : jE) : va_W := []
def jr_Model_isByte : Room := { frames := 1, cells := 0, slots := 0, locals := 20 }
set_option maxHeartbeats 4000000 in
set_option maxRecDepth 100000 in
theorem jc_Model_isByte (l : Launch) (E : jE) (x0 : Int32) (x1 : Int32) (N : Nat) {T : Int32} (h : jf_Model_isByte x0 x1 = some T) : jMi l yX11_isByte wsX11_isByte jr_Model_isByte E [.int x0, .int x1] (jw_Model_isByte E) (T) (jw_Model_isByte E) := by
  refine jMi.begin (cc := cX11_isByte) (maxL := 2) (ret := (some .boolean)) (by decide) rfl (Nat.le_of_ble_eq_true rfl) ?_
  intro p e s m args below meth c A ls Q hQ hx hb hr hml hown hlocks hts hK hA hP hD hS hl
  replace hown : s.vm.findClass RX11 = some m.cls := hown
  replace hl : lv_has ls 2 [(0, .int x0), (1, .int x1)] := hl
  have kb10 : ∀ (H : Heap) (locs : List Loc) (ls : Array Slot), jf_Model_isByte_b10 x1 = some T → va_P E.1 vwCl (jw_Model_isByte E) H → va_D A (jw_Model_isByte E) → va_S A s.heap H locs → lv_has ls 2 [(1, .int x1)] → W p l e jr_Model_isByte s m args below meth c H locs 0 0 Q (F0 m 10 ls []) := by
    intro   H locs ls h hP hD hS hl
    unfold jf_Model_isByte_b10 at h
    refine lv_iload_n hx hb dX11_isByte_10 rfl (lv_at hl 0 rfl) ?_
    refine lv_bipush (v := 46) hx hb dX11_isByte_11 (by decide) ?_
    refine lv_icmp_eq (tgt := 46) hx hb dX11_isByte_13 (by decide) (fun hq13 => ?_) (fun hq13 => ?_)
    · replace h := jif_t hq13 h
      refine lv_iconst (v := 1) hx hb dX11_isByte_46 (by decide) ?_
      refine lv_goto (tgt := 51) hx hb dX11_isByte_47 (by decide) ?_
      exact j_iret (u := 1) (rv := (fun T => T)) (wv := (fun _ => (jw_Model_isByte E))) h hQ hx hb hr jb_1 hlocks hS hP hD dX11_isByte_51
    · replace h := jif_f hq13 h
      refine lv_iload_n hx hb dX11_isByte_16 rfl (lv_at hl 0 rfl) ?_
      refine lv_bipush (v := 44) hx hb dX11_isByte_17 (by decide) ?_
      refine lv_icmp_eq (tgt := 46) hx hb dX11_isByte_19 (by decide) (fun hq19 => ?_) (fun hq19 => ?_)
      · replace h := jif_t hq19 h
        refine lv_iconst (v := 1) hx hb dX11_isByte_46 (by decide) ?_
        refine lv_goto (tgt := 51) hx hb dX11_isByte_47 (by decide) ?_
        exact j_iret (u := 1) (rv := (fun T => T)) (wv := (fun _ => (jw_Model_isByte E))) h hQ hx hb hr jb_1 hlocks hS hP hD dX11_isByte_51
      · replace h := jif_f hq19 h
        refine lv_iload_n hx hb dX11_isByte_22 rfl (lv_at hl 0 rfl) ?_
        refine lv_bipush (v := 59) hx hb dX11_isByte_23 (by decide) ?_
        refine lv_icmp_eq (tgt := 46) hx hb dX11_isByte_25 (by decide) (fun hq25 => ?_) (fun hq25 => ?_)
        · replace h := jif_t hq25 h
          refine lv_iconst (v := 1) hx hb dX11_isByte_46 (by decide) ?_
          refine lv_goto (tgt := 51) hx hb dX11_isByte_47 (by decide) ?_
          exact j_iret (u := 1) (rv := (fun T => T)) (wv := (fun _ => (jw_Model_isByte E))) h hQ hx hb hr jb_1 hlocks hS hP hD dX11_isByte_51
        · replace h := jif_f hq25 h
          refine lv_iload_n hx hb dX11_isByte_28 rfl (lv_at hl 0 rfl) ?_
          refine lv_bipush (v := 58) hx hb dX11_isByte_29 (by decide) ?_
          refine lv_icmp_eq (tgt := 46) hx hb dX11_isByte_31 (by decide) (fun hq31 => ?_) (fun hq31 => ?_)
          · replace h := jif_t hq31 h
            refine lv_iconst (v := 1) hx hb dX11_isByte_46 (by decide) ?_
            refine lv_goto (tgt := 51) hx hb dX11_isByte_47 (by decide) ?_
            exact j_iret (u := 1) (rv := (fun T => T)) (wv := (fun _ => (jw_Model_isByte E))) h hQ hx hb hr jb_1 hlocks hS hP hD dX11_isByte_51
          · replace h := jif_f hq31 h
            refine lv_iload_n hx hb dX11_isByte_34 rfl (lv_at hl 0 rfl) ?_
            refine lv_bipush (v := 63) hx hb dX11_isByte_35 (by decide) ?_
            refine lv_icmp_eq (tgt := 46) hx hb dX11_isByte_37 (by decide) (fun hq37 => ?_) (fun hq37 => ?_)
            · replace h := jif_t hq37 h
              refine lv_iconst (v := 1) hx hb dX11_isByte_46 (by decide) ?_
              refine lv_goto (tgt := 51) hx hb dX11_isByte_47 (by decide) ?_
              exact j_iret (u := 1) (rv := (fun T => T)) (wv := (fun _ => (jw_Model_isByte E))) h hQ hx hb hr jb_1 hlocks hS hP hD dX11_isByte_51
            · replace h := jif_f hq37 h
              refine lv_iload_n hx hb dX11_isByte_40 rfl (lv_at hl 0 rfl) ?_
              refine lv_bipush (v := 33) hx hb dX11_isByte_41 (by decide) ?_
              refine lv_icmp_ne (tgt := 50) hx hb dX11_isByte_43 (by decide) (fun hq43 => ?_) (fun hq43 => ?_)
              · replace h := jif_f hq43 h
                refine lv_iconst (v := 0) hx hb dX11_isByte_50 (by decide) ?_
                exact j_iret (u := 0) (rv := (fun T => T)) (wv := (fun _ => (jw_Model_isByte E))) h hQ hx hb hr jb_0 hlocks hS hP hD dX11_isByte_51
              · replace h := jif_t hq43 h
                refine lv_iconst (v := 1) hx hb dX11_isByte_46 (by decide) ?_
                refine lv_goto (tgt := 51) hx hb dX11_isByte_47 (by decide) ?_
                exact j_iret (u := 1) (rv := (fun T => T)) (wv := (fun _ => (jw_Model_isByte E))) h hQ hx hb hr jb_1 hlocks hS hP hD dX11_isByte_51
  unfold jf_Model_isByte at h
  refine lv_iload_n hx hb dX11_isByte_0 rfl (lv_at hl 0 rfl) ?_
  refine lv_iconst (v := 3) hx hb dX11_isByte_1 (by decide) ?_
  refine lv_icmp_eq (tgt := 10) hx hb dX11_isByte_2 (by decide) (fun hq2 => ?_) (fun hq2 => ?_)
  · replace h := jif_t hq2 h
    exact kb10    _ _ _ h hP hD hS (lv_sub hl [1] rfl)
  · replace h := jif_f hq2 h
    refine lv_iload_n hx hb dX11_isByte_5 rfl (lv_at hl 0 rfl) ?_
    refine lv_iconst (v := 4) hx hb dX11_isByte_6 (by decide) ?_
    refine lv_icmp_ne (tgt := 52) hx hb dX11_isByte_7 (by decide) (fun hq7 => ?_) (fun hq7 => ?_)
    · replace h := jif_f hq7 h
      refine lv_iload_n hx hb dX11_isByte_52 rfl (lv_at hl 1 rfl) ?_
      obtain ⟨r53, hf53, h⟩ := jbd h
      refine j_callSi (own := RX11) (As := [.int x1]) (rest := []) hx hb hml hown hts hK hA hP hD hS (jc_Model_isSmall l E x1 N hf53) gX11_isByte_X11_isSmall rfl ⟨rfl, rfl⟩ 1 (by decide +kernel) rfl rfl [] [] [] rfl rfl rfl rfl rfl rfl rfl hl.1 rfl rfl dX11_isByte_53 (fun H locs hP hD hS => ?_)
      replace hP : va_P E.1 vwCl (jw_Model_isByte E) H := hP
      replace hD : va_D A (jw_Model_isByte E) := hD
      obtain ⟨hz56, h⟩ := jgb_e h
      exact j_iret (u := r53) (rv := (fun T => T)) (wv := (fun _ => (jw_Model_isByte E))) h hQ hx hb hr hz56 hlocks hS hP hD dX11_isByte_56
    · replace h := jif_t hq7 h
      exact kb10    _ _ _ h hP hD hS (lv_sub hl [1] rfl)
abbrev jw_Model_areStrokes (E : jE) : va_W := []
def jr_Model_areStrokes : Room := { frames := 1, cells := 0, slots := 0, locals := 20 }
set_option maxHeartbeats 4000000 in
set_option maxRecDepth 100000 in
theorem jc_Model_areStrokes (l : Launch) (E : jE) (x0 : Int32) (x1 : Int32) (x2 : Int32) (x3 : Int32) (x4 : Int32) (N : Nat) {T : Int32} (h : jf_Model_areStrokes x0 x1 x2 x3 x4 = some T) : jMi l yX11_areStrokes wsX11_areStrokes jr_Model_areStrokes E [.int x0, .int x1, .int x2, .int x3, .int x4] (jw_Model_areStrokes E) (T) (jw_Model_areStrokes E) := by
  refine jMi.begin (cc := cX11_areStrokes) (maxL := 5) (ret := (some .boolean)) (by decide) rfl (Nat.le_of_ble_eq_true rfl) ?_
  intro p e s m args below meth c A ls Q hQ hx hb hr hml hown hlocks hts hK hA hP hD hS hl
  replace hown : s.vm.findClass RX11 = some m.cls := hown
  replace hl : lv_has ls 5 [(0, .int x0), (1, .int x1), (2, .int x2), (3, .int x3), (4, .int x4)] := hl
  have kb73 : ∀ (H : Heap) (locs : List Loc) (ls : Array Slot), jf_Model_areStrokes_b73 x3 x4 = some T → va_P E.1 vwCl (jw_Model_areStrokes E) H → va_D A (jw_Model_areStrokes E) → va_S A s.heap H locs → lv_has ls 5 [(3, .int x3), (4, .int x4)] → W p l e jr_Model_areStrokes s m args below meth c H locs 0 0 Q (F0 m 73 ls []) := by
    intro   H locs ls h hP hD hS hl
    unfold jf_Model_areStrokes_b73 at h
    refine lv_iload_n hx hb dX11_areStrokes_73 rfl (lv_at hl 0 rfl) ?_
    refine lv_if_ne (tgt := 82) hx hb dX11_areStrokes_74 (by decide) (fun hq74 => ?_) (fun hq74 => ?_)
    · replace h := jif_f hq74 h
      refine lv_iconst (v := 1) hx hb dX11_areStrokes_82 (by decide) ?_
      refine lv_goto (tgt := 87) hx hb dX11_areStrokes_83 (by decide) ?_
      exact j_iret (u := 1) (rv := (fun T => T)) (wv := (fun _ => (jw_Model_areStrokes E))) h hQ hx hb hr jb_1 hlocks hS hP hD dX11_areStrokes_87
    · replace h := jif_t hq74 h
      refine lv_iload hx hb dX11_areStrokes_77 (lv_at hl 1 rfl) ?_
      refine lv_if_ne (tgt := 86) hx hb dX11_areStrokes_79 (by decide) (fun hq79 => ?_) (fun hq79 => ?_)
      · replace h := jif_f hq79 h
        refine lv_iconst (v := 0) hx hb dX11_areStrokes_86 (by decide) ?_
        exact j_iret (u := 0) (rv := (fun T => T)) (wv := (fun _ => (jw_Model_areStrokes E))) h hQ hx hb hr jb_0 hlocks hS hP hD dX11_areStrokes_87
      · replace h := jif_t hq79 h
        refine lv_iconst (v := 1) hx hb dX11_areStrokes_82 (by decide) ?_
        refine lv_goto (tgt := 87) hx hb dX11_areStrokes_83 (by decide) ?_
        exact j_iret (u := 1) (rv := (fun T => T)) (wv := (fun _ => (jw_Model_areStrokes E))) h hQ hx hb hr jb_1 hlocks hS hP hD dX11_areStrokes_87
  have kb65 : ∀ (H : Heap) (locs : List Loc) (ls : Array Slot), jf_Model_areStrokes_b65 x2 x3 x4 = some T → va_P E.1 vwCl (jw_Model_areStrokes E) H → va_D A (jw_Model_areStrokes E) → va_S A s.heap H locs → lv_has ls 5 [(2, .int x2), (3, .int x3), (4, .int x4)] → W p l e jr_Model_areStrokes s m args below meth c H locs 0 0 Q (F0 m 65 ls []) := by
    intro   H locs ls h hP hD hS hl
    unfold jf_Model_areStrokes_b65 at h
    refine lv_iload_n hx hb dX11_areStrokes_65 rfl (lv_at hl 0 rfl) ?_
    refine lv_if_ne (tgt := 73) hx hb dX11_areStrokes_66 (by decide) (fun hq66 => ?_) (fun hq66 => ?_)
    · replace h := jif_f hq66 h
      exact kb73    _ _ _ h hP hD hS (lv_sub hl [1, 2] rfl)
    · replace h := jif_t hq66 h
      refine lv_iload_n hx hb dX11_areStrokes_69 rfl (lv_at hl 1 rfl) ?_
      refine lv_if_ne (tgt := 86) hx hb dX11_areStrokes_70 (by decide) (fun hq70 => ?_) (fun hq70 => ?_)
      · replace h := jif_f hq70 h
        refine lv_iconst (v := 0) hx hb dX11_areStrokes_86 (by decide) ?_
        exact j_iret (u := 0) (rv := (fun T => T)) (wv := (fun _ => (jw_Model_areStrokes E))) h hQ hx hb hr jb_0 hlocks hS hP hD dX11_areStrokes_87
      · replace h := jif_t hq70 h
        exact kb73    _ _ _ h hP hD hS (lv_sub hl [1, 2] rfl)
  have kb57 : ∀ (H : Heap) (locs : List Loc) (ls : Array Slot), jf_Model_areStrokes_b57 x1 x2 x3 x4 = some T → va_P E.1 vwCl (jw_Model_areStrokes E) H → va_D A (jw_Model_areStrokes E) → va_S A s.heap H locs → lv_has ls 5 [(1, .int x1), (2, .int x2), (3, .int x3), (4, .int x4)] → W p l e jr_Model_areStrokes s m args below meth c H locs 0 0 Q (F0 m 57 ls []) := by
    intro   H locs ls h hP hD hS hl
    unfold jf_Model_areStrokes_b57 at h
    refine lv_iload_n hx hb dX11_areStrokes_57 rfl (lv_at hl 0 rfl) ?_
    refine lv_if_ne (tgt := 65) hx hb dX11_areStrokes_58 (by decide) (fun hq58 => ?_) (fun hq58 => ?_)
    · replace h := jif_f hq58 h
      exact kb65    _ _ _ h hP hD hS (lv_sub hl [1, 2, 3] rfl)
    · replace h := jif_t hq58 h
      refine lv_iload_n hx hb dX11_areStrokes_61 rfl (lv_at hl 1 rfl) ?_
      refine lv_if_ne (tgt := 86) hx hb dX11_areStrokes_62 (by decide) (fun hq62 => ?_) (fun hq62 => ?_)
      · replace h := jif_f hq62 h
        refine lv_iconst (v := 0) hx hb dX11_areStrokes_86 (by decide) ?_
        exact j_iret (u := 0) (rv := (fun T => T)) (wv := (fun _ => (jw_Model_areStrokes E))) h hQ hx hb hr jb_0 hlocks hS hP hD dX11_areStrokes_87
      · replace h := jif_t hq62 h
        exact kb65    _ _ _ h hP hD hS (lv_sub hl [1, 2, 3] rfl)
  have kb42 : ∀ (H : Heap) (locs : List Loc) (ls : Array Slot), jf_Model_areStrokes_b42 x1 x2 x3 x4 = some T → va_P E.1 vwCl (jw_Model_areStrokes E) H → va_D A (jw_Model_areStrokes E) → va_S A s.heap H locs → lv_has ls 5 [(1, .int x1), (2, .int x2), (3, .int x3), (4, .int x4)] → W p l e jr_Model_areStrokes s m args below meth c H locs 0 0 Q (F0 m 42 ls []) := by
    intro   H locs ls h hP hD hS hl
    unfold jf_Model_areStrokes_b42 at h
    refine lv_iload hx hb dX11_areStrokes_42 (lv_at hl 3 rfl) ?_
    refine lv_if_eq (tgt := 57) hx hb dX11_areStrokes_44 (by decide) (fun hq44 => ?_) (fun hq44 => ?_)
    · replace h := jif_t hq44 h
      exact kb57    _ _ _ h hP hD hS (lv_sub hl [0, 1, 2, 3] rfl)
    · replace h := jif_f hq44 h
      refine lv_iload hx hb dX11_areStrokes_47 (lv_at hl 3 rfl) ?_
      obtain ⟨r49, hf49, h⟩ := jbd h
      refine j_callSi (own := RX11) (As := [.int x4]) (rest := []) hx hb hml hown hts hK hA hP hD hS (jc_Model_isStroke l E x4 N hf49) gX11_areStrokes_X11_isStroke rfl ⟨rfl, rfl⟩ 1 (by decide +kernel) rfl rfl [] [] [] rfl rfl rfl rfl rfl rfl rfl hl.1 rfl rfl dX11_areStrokes_49 (fun H locs hP hD hS => ?_)
      replace hP : va_P E.1 vwCl (jw_Model_areStrokes E) H := hP
      replace hD : va_D A (jw_Model_areStrokes E) := hD
      refine lv_if_ne (tgt := 57) hx hb dX11_areStrokes_52 (by decide) (fun hq52 => ?_) (fun hq52 => ?_)
      · replace h := jif_f hq52 h
        exact kb57    _ _ _ h hP hD hS (lv_sub hl [0, 1, 2, 3] rfl)
      · replace h := jif_t hq52 h
        refine lv_iconst (v := 0) hx hb dX11_areStrokes_55 (by decide) ?_
        exact j_iret (u := 0) (rv := (fun T => T)) (wv := (fun _ => (jw_Model_areStrokes E))) h hQ hx hb hr jb_0 hlocks hS hP hD dX11_areStrokes_56
  have kb31 : ∀ (H : Heap) (locs : List Loc) (ls : Array Slot), jf_Model_areStrokes_b31 x1 x2 x3 x4 = some T → va_P E.1 vwCl (jw_Model_areStrokes E) H → va_D A (jw_Model_areStrokes E) → va_S A s.heap H locs → lv_has ls 5 [(1, .int x1), (2, .int x2), (3, .int x3), (4, .int x4)] → W p l e jr_Model_areStrokes s m args below meth c H locs 0 0 Q (F0 m 31 ls []) := by
    intro   H locs ls h hP hD hS hl
    unfold jf_Model_areStrokes_b31 at h
    refine lv_iload_n hx hb dX11_areStrokes_31 rfl (lv_at hl 2 rfl) ?_
    refine lv_if_eq (tgt := 42) hx hb dX11_areStrokes_32 (by decide) (fun hq32 => ?_) (fun hq32 => ?_)
    · replace h := jif_t hq32 h
      exact kb42    _ _ _ h hP hD hS (lv_sub hl [0, 1, 2, 3] rfl)
    · replace h := jif_f hq32 h
      refine lv_iload_n hx hb dX11_areStrokes_35 rfl (lv_at hl 2 rfl) ?_
      obtain ⟨r36, hf36, h⟩ := jbd h
      refine j_callSi (own := RX11) (As := [.int x3]) (rest := []) hx hb hml hown hts hK hA hP hD hS (jc_Model_isStroke l E x3 N hf36) gX11_areStrokes_X11_isStroke rfl ⟨rfl, rfl⟩ 1 (by decide +kernel) rfl rfl [] [] [] rfl rfl rfl rfl rfl rfl rfl hl.1 rfl rfl dX11_areStrokes_36 (fun H locs hP hD hS => ?_)
      replace hP : va_P E.1 vwCl (jw_Model_areStrokes E) H := hP
      replace hD : va_D A (jw_Model_areStrokes E) := hD
      refine lv_if_eq (tgt := 55) hx hb dX11_areStrokes_39 (by decide) (fun hq39 => ?_) (fun hq39 => ?_)
      · replace h := jif_t hq39 h
        refine lv_iconst (v := 0) hx hb dX11_areStrokes_55 (by decide) ?_
        exact j_iret (u := 0) (rv := (fun T => T)) (wv := (fun _ => (jw_Model_areStrokes E))) h hQ hx hb hr jb_0 hlocks hS hP hD dX11_areStrokes_56
      · replace h := jif_f hq39 h
        exact kb42    _ _ _ h hP hD hS (lv_sub hl [0, 1, 2, 3] rfl)
  have kb20 : ∀ (H : Heap) (locs : List Loc) (ls : Array Slot), jf_Model_areStrokes_b20 x1 x2 x3 x4 = some T → va_P E.1 vwCl (jw_Model_areStrokes E) H → va_D A (jw_Model_areStrokes E) → va_S A s.heap H locs → lv_has ls 5 [(1, .int x1), (2, .int x2), (3, .int x3), (4, .int x4)] → W p l e jr_Model_areStrokes s m args below meth c H locs 0 0 Q (F0 m 20 ls []) := by
    intro   H locs ls h hP hD hS hl
    unfold jf_Model_areStrokes_b20 at h
    refine lv_iload_n hx hb dX11_areStrokes_20 rfl (lv_at hl 1 rfl) ?_
    refine lv_if_eq (tgt := 31) hx hb dX11_areStrokes_21 (by decide) (fun hq21 => ?_) (fun hq21 => ?_)
    · replace h := jif_t hq21 h
      exact kb31    _ _ _ h hP hD hS (lv_sub hl [0, 1, 2, 3] rfl)
    · replace h := jif_f hq21 h
      refine lv_iload_n hx hb dX11_areStrokes_24 rfl (lv_at hl 1 rfl) ?_
      obtain ⟨r25, hf25, h⟩ := jbd h
      refine j_callSi (own := RX11) (As := [.int x2]) (rest := []) hx hb hml hown hts hK hA hP hD hS (jc_Model_isStroke l E x2 N hf25) gX11_areStrokes_X11_isStroke rfl ⟨rfl, rfl⟩ 1 (by decide +kernel) rfl rfl [] [] [] rfl rfl rfl rfl rfl rfl rfl hl.1 rfl rfl dX11_areStrokes_25 (fun H locs hP hD hS => ?_)
      replace hP : va_P E.1 vwCl (jw_Model_areStrokes E) H := hP
      replace hD : va_D A (jw_Model_areStrokes E) := hD
      refine lv_if_eq (tgt := 55) hx hb dX11_areStrokes_28 (by decide) (fun hq28 => ?_) (fun hq28 => ?_)
      · replace h := jif_t hq28 h
        refine lv_iconst (v := 0) hx hb dX11_areStrokes_55 (by decide) ?_
        exact j_iret (u := 0) (rv := (fun T => T)) (wv := (fun _ => (jw_Model_areStrokes E))) h hQ hx hb hr jb_0 hlocks hS hP hD dX11_areStrokes_56
      · replace h := jif_f hq28 h
        exact kb31    _ _ _ h hP hD hS (lv_sub hl [0, 1, 2, 3] rfl)
  unfold jf_Model_areStrokes at h
  refine lv_iload_n hx hb dX11_areStrokes_0 rfl (lv_at hl 0 rfl) ?_
  obtain ⟨r1, hf1, h⟩ := jbd h
  refine j_callSi (own := RX11) (As := [.int x0]) (rest := []) hx hb hml hown hts hK hA hP hD hS (jc_Model_isStroke l E x0 N hf1) gX11_areStrokes_X11_isStroke rfl ⟨rfl, rfl⟩ 1 (by decide +kernel) rfl rfl [] [] [] rfl rfl rfl rfl rfl rfl rfl hl.1 rfl rfl dX11_areStrokes_1 (fun H locs hP hD hS => ?_)
  replace hP : va_P E.1 vwCl (jw_Model_areStrokes E) H := hP
  replace hD : va_D A (jw_Model_areStrokes E) := hD
  refine lv_if_ne (tgt := 9) hx hb dX11_areStrokes_4 (by decide) (fun hq4 => ?_) (fun hq4 => ?_)
  · replace h := jif_f hq4 h
    refine lv_iload_n hx hb dX11_areStrokes_9 rfl (lv_at hl 1 rfl) ?_
    refine lv_if_eq (tgt := 20) hx hb dX11_areStrokes_10 (by decide) (fun hq10 => ?_) (fun hq10 => ?_)
    · replace h := jif_t hq10 h
      exact kb20    _ _ _ h hP hD hS (lv_sub hl [1, 2, 3, 4] rfl)
    · replace h := jif_f hq10 h
      refine lv_iload_n hx hb dX11_areStrokes_13 rfl (lv_at hl 1 rfl) ?_
      obtain ⟨r14, hf14, h⟩ := jbd h
      refine j_callSi (own := RX11) (As := [.int x1]) (rest := []) hx hb hml hown hts hK hA hP hD hS (jc_Model_isStroke l E x1 N hf14) gX11_areStrokes_X11_isStroke rfl ⟨rfl, rfl⟩ 1 (by decide +kernel) rfl rfl [] [] [] rfl rfl rfl rfl rfl rfl rfl hl.1 rfl rfl dX11_areStrokes_14 (fun H locs hP hD hS => ?_)
      replace hP : va_P E.1 vwCl (jw_Model_areStrokes E) H := hP
      replace hD : va_D A (jw_Model_areStrokes E) := hD
      refine lv_if_eq (tgt := 55) hx hb dX11_areStrokes_17 (by decide) (fun hq17 => ?_) (fun hq17 => ?_)
      · replace h := jif_t hq17 h
        refine lv_iconst (v := 0) hx hb dX11_areStrokes_55 (by decide) ?_
        exact j_iret (u := 0) (rv := (fun T => T)) (wv := (fun _ => (jw_Model_areStrokes E))) h hQ hx hb hr jb_0 hlocks hS hP hD dX11_areStrokes_56
      · replace h := jif_f hq17 h
        exact kb20    _ _ _ h hP hD hS (lv_sub hl [1, 2, 3, 4] rfl)
  · replace h := jif_t hq4 h
    refine lv_iconst (v := 0) hx hb dX11_areStrokes_7 (by decide) ?_
    exact j_iret (u := 0) (rv := (fun T => T)) (wv := (fun _ => (jw_Model_areStrokes E))) h hQ hx hb hr jb_0 hlocks hS hP hD dX11_areStrokes_8
