abbrev jw_Room_entry (E : jE) (q_this q_tape q_entries q_record q_page q_transcript q_planner q_runs q_chord q_outline q_entries_kinds q_entries_strokeCounts q_entries_strokes q_entries_lengths q_entries_letters q_record_keys q_record_firsts q_record_entries q_tape_bytes q_transcript_chord q_transcript_lasts q_transcript_behinds q_transcript_owners : Nat) (c_entries_size : Int32) (c_record_size : Int32) (c_record_readSoFar : Int32) (c_tape_size : Int32) (c_transcript_size : Int32) (c_transcript_raws : Int32) (c_transcript_settled : Int32) (a_entries_kinds : (Nat → Int32)) (a_entries_lengths : (Nat → Int32)) (a_entries_letters : (Nat → Int32)) (a_entries_strokeCounts : (Nat → Int32)) (a_entries_strokes : (Nat → Int32)) (a_outline : (Nat → Int32)) (a_tape_bytes : (Nat → Int32)) : va_W := [(q_this, .inr (10, [.ref q_tape, .ref q_entries, .ref q_record, .ref q_page, .ref q_transcript, .ref q_planner, .ref q_runs, .ref q_chord, .ref q_outline])), (q_entries, .inr (0, [.ref q_entries_kinds, .ref q_entries_strokeCounts, .ref q_entries_strokes, .ref q_entries_lengths, .ref q_entries_letters, .int c_entries_size])), (q_record, .inr (6, [.ref q_entries, .ref q_record_keys, .ref q_record_firsts, .ref q_record_entries, .int c_record_size, .int c_record_readSoFar])), (q_tape, .inr (8, [.ref q_tape_bytes, .int c_tape_size])), (q_transcript, .inr (9, [.ref q_entries, .ref q_record, .ref q_page, .ref q_transcript_chord, .ref q_transcript_lasts, .ref q_transcript_behinds, .ref q_transcript_owners, .int c_transcript_size, .int c_transcript_raws, .int c_transcript_settled])), (q_entries_kinds, .inl (E.2.2.1, 60, .inl a_entries_kinds)), (q_entries_lengths, .inl (E.2.2.1, 60, .inl a_entries_lengths)), (q_entries_letters, .inl (E.2.1, 960, .inl a_entries_letters)), (q_entries_strokeCounts, .inl (E.2.2.1, 60, .inl a_entries_strokeCounts)), (q_entries_strokes, .inl (E.2.2.1, 300, .inl a_entries_strokes)), (q_outline, .inl (E.2.2.1, 5, .inl a_outline)), (q_tape_bytes, .inl (E.2.1, 80, .inl a_tape_bytes))]
def jr_Room_entry : Room := { frames := 3, cells := 0, slots := 0, locals := 69 }
set_option maxHeartbeats 4000000 in
set_option maxRecDepth 100000 in
theorem jc_Room_entry (l : Launch) (E : jE) (q_this q_tape q_entries q_record q_page q_transcript q_planner q_runs q_chord q_outline q_entries_kinds q_entries_strokeCounts q_entries_strokes q_entries_lengths q_entries_letters q_record_keys q_record_firsts q_record_entries q_tape_bytes q_transcript_chord q_transcript_lasts q_transcript_behinds q_transcript_owners : Nat) (c_entries_size : Int32) (c_record_size : Int32) (c_record_readSoFar : Int32) (c_tape_size : Int32) (c_transcript_size : Int32) (c_transcript_raws : Int32) (c_transcript_settled : Int32) (a_entries_kinds : (Nat → Int32)) (a_entries_lengths : (Nat → Int32)) (a_entries_letters : (Nat → Int32)) (a_entries_strokeCounts : (Nat → Int32)) (a_entries_strokes : (Nat → Int32)) (a_outline : (Nat → Int32)) (a_tape_bytes : (Nat → Int32)) (x1 : Int32) (x2 : Int32) (x3 : Int32) (x4 : Int32) (x5 : Int32) (x6 : Int32) (x7 : Int32) (N : Nat) {T : Int32 × Int32 × Int32 × Int32 × Int32 × (Nat → Int32) × (Nat → Int32) × (Nat → Int32) × (Nat → Int32) × (Nat → Int32) × (Nat → Int32)} (h : jf_Room_entry N x1 x2 x3 x4 x5 x6 x7 a_tape_bytes c_entries_size c_record_readSoFar c_tape_size c_transcript_settled a_entries_kinds a_entries_lengths a_entries_letters a_entries_strokeCounts a_entries_strokes a_outline = some T) : jMi l yX10_entry wsX10_entry jr_Room_entry E [.ref q_this, .int x1, .int x2, .int x3, .int x4, .int x5, .int x6, .int x7] (jw_Room_entry E q_this q_tape q_entries q_record q_page q_transcript q_planner q_runs q_chord q_outline q_entries_kinds q_entries_strokeCounts q_entries_strokes q_entries_lengths q_entries_letters q_record_keys q_record_firsts q_record_entries q_tape_bytes q_transcript_chord q_transcript_lasts q_transcript_behinds q_transcript_owners c_entries_size c_record_size c_record_readSoFar c_tape_size c_transcript_size c_transcript_raws c_transcript_settled a_entries_kinds a_entries_lengths a_entries_letters a_entries_strokeCounts a_entries_strokes a_outline a_tape_bytes) (T.1) (jw_Room_entry E q_this q_tape q_entries q_record q_page q_transcript q_planner q_runs q_chord q_outline q_entries_kinds q_entries_strokeCounts q_entries_strokes q_entries_lengths q_entries_letters q_record_keys q_record_firsts q_record_entries q_tape_bytes q_transcript_chord q_transcript_lasts q_transcript_behinds q_transcript_owners T.2.1 c_record_size T.2.2.1 T.2.2.2.1 c_transcript_size c_transcript_raws T.2.2.2.2.1 T.2.2.2.2.2.1 T.2.2.2.2.2.2.1 T.2.2.2.2.2.2.2.1 T.2.2.2.2.2.2.2.2.1 T.2.2.2.2.2.2.2.2.2.1 T.2.2.2.2.2.2.2.2.2.2 a_tape_bytes) := by
  refine jMi.begin (cc := cX10_entry) (maxL := 10) (ret := (some .int)) (by decide) rfl (Nat.le_of_ble_eq_true rfl) ?_
  intro p e s m args below meth c A ls Q hQ hx hb hr hml hown hlocks hts hK hA hP hD hS hl
  replace hown : s.vm.findClass RX10 = some m.cls := hown
  replace hl : lv_has ls 10 [(0, .ref q_this), (1, .int x1), (2, .int x2), (3, .int x3), (4, .int x4), (5, .int x5), (6, .int x6), (7, .int x7)] := hl
  have hin10 : ∀ w ∈ u_ws RX10 TX10 9, w ∈ wsX10_entry := by decide +kernel
  have hk_10 := hts (.fieldLink RX10 10 "StenoRoom" "tape" "LStenoRoom$Tape;") (by decide +kernel)
  have hk_19 := hts (.fieldLink RX10 19 "StenoRoom" "entries" "LStenoRoom$Book;") (by decide +kernel)
  have hk_71 := hts (.fieldLink RX10 71 "StenoRoom" "outline" "[I") (by decide +kernel)
  have kb117 : ∀ (x9 : Int32) (c_entries_size : Int32) (c_record_readSoFar : Int32) (c_tape_size : Int32) (c_transcript_settled : Int32) (a_entries_kinds : (Nat → Int32)) (a_entries_lengths : (Nat → Int32)) (a_entries_letters : (Nat → Int32)) (a_entries_strokeCounts : (Nat → Int32)) (a_entries_strokes : (Nat → Int32)) (a_outline : (Nat → Int32)) (H : Heap) (locs : List Loc) (ls : Array Slot), jf_Room_entry_b117 x9 c_entries_size c_record_readSoFar c_tape_size c_transcript_settled a_entries_kinds a_entries_lengths a_entries_letters a_entries_strokeCounts a_entries_strokes a_outline = some T → va_P E.1 vwCl (jw_Room_entry E q_this q_tape q_entries q_record q_page q_transcript q_planner q_runs q_chord q_outline q_entries_kinds q_entries_strokeCounts q_entries_strokes q_entries_lengths q_entries_letters q_record_keys q_record_firsts q_record_entries q_tape_bytes q_transcript_chord q_transcript_lasts q_transcript_behinds q_transcript_owners c_entries_size c_record_size c_record_readSoFar c_tape_size c_transcript_size c_transcript_raws c_transcript_settled a_entries_kinds a_entries_lengths a_entries_letters a_entries_strokeCounts a_entries_strokes a_outline a_tape_bytes) H → va_D A (jw_Room_entry E q_this q_tape q_entries q_record q_page q_transcript q_planner q_runs q_chord q_outline q_entries_kinds q_entries_strokeCounts q_entries_strokes q_entries_lengths q_entries_letters q_record_keys q_record_firsts q_record_entries q_tape_bytes q_transcript_chord q_transcript_lasts q_transcript_behinds q_transcript_owners c_entries_size c_record_size c_record_readSoFar c_tape_size c_transcript_size c_transcript_raws c_transcript_settled a_entries_kinds a_entries_lengths a_entries_letters a_entries_strokeCounts a_entries_strokes a_outline a_tape_bytes) → va_S A s.heap H locs → lv_has ls 10 [(0, .ref q_this), (9, .int x9)] → W p l e jr_Room_entry s m args below meth c H locs 0 0 Q (F0 m 117 ls []) := by
    intro  x9 c_entries_size c_record_readSoFar c_tape_size c_transcript_settled a_entries_kinds a_entries_lengths a_entries_letters a_entries_strokeCounts a_entries_strokes a_outline H locs ls h hP hD hS hl
    unfold jf_Room_entry_b117 at h
    refine lv_aload_n hx hb dX10_entry_117 rfl (lv_at hl 0 rfl) ?_
    refine va_get (D := E.1) (ci := 10) (v := .ref q_tape) (C := RX10) (T := TX10) (N := 9) hx hb hts hin10 hown hK.1 hP 0 rfl rfl 0 (by decide) hk_10 (fun _ h9 => h9) rfl dX10_entry_118 ?_
    obtain ⟨c_tape_size_121, hf121, h⟩ := jbd h
    refine j_callVv (own := RX10) (As := []) (rest := []) hx hb hml hown hts hK hA hP hD hS (jc_Tape_wipe l E q_tape q_tape_bytes c_tape_size N hf121) gX10_entry_X8_wipe rfl ⟨rfl, rfl⟩ 0 (by decide +kernel) rfl rfl 3 8 rfl rfl [3] [0, 1, 2, 4, 5, 6, 7, 8, 9, 10, 11] [0, 1, 2, 11, 3, 4, 5, 6, 7, 8, 9, 10] rfl rfl rfl rfl rfl rfl rfl hl.1 rfl rfl dX10_entry_121 (fun H locs hP hD hS => ?_)
    replace hP : va_P E.1 vwCl (jw_Room_entry E q_this q_tape q_entries q_record q_page q_transcript q_planner q_runs q_chord q_outline q_entries_kinds q_entries_strokeCounts q_entries_strokes q_entries_lengths q_entries_letters q_record_keys q_record_firsts q_record_entries q_tape_bytes q_transcript_chord q_transcript_lasts q_transcript_behinds q_transcript_owners c_entries_size c_record_size c_record_readSoFar c_tape_size_121 c_transcript_size c_transcript_raws c_transcript_settled a_entries_kinds a_entries_lengths a_entries_letters a_entries_strokeCounts a_entries_strokes a_outline a_tape_bytes) H := hP
    replace hD : va_D A (jw_Room_entry E q_this q_tape q_entries q_record q_page q_transcript q_planner q_runs q_chord q_outline q_entries_kinds q_entries_strokeCounts q_entries_strokes q_entries_lengths q_entries_letters q_record_keys q_record_firsts q_record_entries q_tape_bytes q_transcript_chord q_transcript_lasts q_transcript_behinds q_transcript_owners c_entries_size c_record_size c_record_readSoFar c_tape_size_121 c_transcript_size c_transcript_raws c_transcript_settled a_entries_kinds a_entries_lengths a_entries_letters a_entries_strokeCounts a_entries_strokes a_outline a_tape_bytes) := hD
    refine lv_iload hx hb dX10_entry_124 (lv_at hl 1 rfl) ?_
    refine lv_if_eq (tgt := 141) hx hb dX10_entry_126 (by decide) (fun hq126 => ?_) (fun hq126 => ?_)
    · replace h := jif_t hq126 h
      refine lv_iconst (v := (-1)) hx hb dX10_entry_141 (by decide) ?_
      exact j_iret (u := ((-1), c_entries_size, c_record_readSoFar, c_tape_size_121, c_transcript_settled, a_entries_kinds, a_entries_lengths, a_entries_letters, a_entries_strokeCounts, a_entries_strokes, a_outline)) (rv := (fun T => T.1)) (wv := (fun T => (jw_Room_entry E q_this q_tape q_entries q_record q_page q_transcript q_planner q_runs q_chord q_outline q_entries_kinds q_entries_strokeCounts q_entries_strokes q_entries_lengths q_entries_letters q_record_keys q_record_firsts q_record_entries q_tape_bytes q_transcript_chord q_transcript_lasts q_transcript_behinds q_transcript_owners T.2.1 c_record_size T.2.2.1 T.2.2.2.1 c_transcript_size c_transcript_raws T.2.2.2.2.1 T.2.2.2.2.2.1 T.2.2.2.2.2.2.1 T.2.2.2.2.2.2.2.1 T.2.2.2.2.2.2.2.2.1 T.2.2.2.2.2.2.2.2.2.1 T.2.2.2.2.2.2.2.2.2.2 a_tape_bytes))) h hQ hx hb hr rfl hlocks hS hP hD dX10_entry_142
    · replace h := jif_f hq126 h
      refine lv_aload_n hx hb dX10_entry_129 rfl (lv_at hl 0 rfl) ?_
      refine va_get (D := E.1) (ci := 10) (v := .ref q_entries) (C := RX10) (T := TX10) (N := 9) hx hb hts hin10 hown hK.1 hP 0 rfl rfl 1 (by decide) hk_19 (fun _ h9 => h9) rfl dX10_entry_130 ?_
      obtain ⟨r133, hf133, h⟩ := jbd h
      refine j_callVi (own := RX10) (As := []) (rest := []) hx hb hml hown hts hK hA hP hD hS (jc_Book_size l E q_entries q_entries_kinds q_entries_strokeCounts q_entries_strokes q_entries_lengths q_entries_letters c_entries_size N hf133) gX10_entry_X0_size rfl ⟨rfl, rfl⟩ 0 (by decide +kernel) rfl rfl 1 0 rfl rfl [1] [0, 2, 3, 4, 5, 6, 7, 8, 9, 10, 11] [0, 11, 1, 2, 3, 4, 5, 6, 7, 8, 9, 10] rfl rfl rfl rfl rfl rfl rfl hl.1 rfl rfl dX10_entry_133 (fun H locs hP hD hS => ?_)
      replace hP : va_P E.1 vwCl (jw_Room_entry E q_this q_tape q_entries q_record q_page q_transcript q_planner q_runs q_chord q_outline q_entries_kinds q_entries_strokeCounts q_entries_strokes q_entries_lengths q_entries_letters q_record_keys q_record_firsts q_record_entries q_tape_bytes q_transcript_chord q_transcript_lasts q_transcript_behinds q_transcript_owners c_entries_size c_record_size c_record_readSoFar c_tape_size_121 c_transcript_size c_transcript_raws c_transcript_settled a_entries_kinds a_entries_lengths a_entries_letters a_entries_strokeCounts a_entries_strokes a_outline a_tape_bytes) H := hP
      replace hD : va_D A (jw_Room_entry E q_this q_tape q_entries q_record q_page q_transcript q_planner q_runs q_chord q_outline q_entries_kinds q_entries_strokeCounts q_entries_strokes q_entries_lengths q_entries_letters q_record_keys q_record_firsts q_record_entries q_tape_bytes q_transcript_chord q_transcript_lasts q_transcript_behinds q_transcript_owners c_entries_size c_record_size c_record_readSoFar c_tape_size_121 c_transcript_size c_transcript_raws c_transcript_settled a_entries_kinds a_entries_lengths a_entries_letters a_entries_strokeCounts a_entries_strokes a_outline a_tape_bytes) := hD
      refine lv_iconst (v := 1) hx hb dX10_entry_136 (by decide) ?_
      refine lv_isub hx hb dX10_entry_137 ?_
      refine lv_goto (tgt := 142) hx hb dX10_entry_138 (by decide) ?_
      exact j_iret (u := ((r133 - 1), c_entries_size, c_record_readSoFar, c_tape_size_121, c_transcript_settled, a_entries_kinds, a_entries_lengths, a_entries_letters, a_entries_strokeCounts, a_entries_strokes, a_outline)) (rv := (fun T => T.1)) (wv := (fun T => (jw_Room_entry E q_this q_tape q_entries q_record q_page q_transcript q_planner q_runs q_chord q_outline q_entries_kinds q_entries_strokeCounts q_entries_strokes q_entries_lengths q_entries_letters q_record_keys q_record_firsts q_record_entries q_tape_bytes q_transcript_chord q_transcript_lasts q_transcript_behinds q_transcript_owners T.2.1 c_record_size T.2.2.1 T.2.2.2.1 c_transcript_size c_transcript_raws T.2.2.2.2.1 T.2.2.2.2.2.1 T.2.2.2.2.2.2.1 T.2.2.2.2.2.2.2.1 T.2.2.2.2.2.2.2.2.1 T.2.2.2.2.2.2.2.2.2.1 T.2.2.2.2.2.2.2.2.2.2 a_tape_bytes))) h hQ hx hb hr rfl hlocks hS hP hD dX10_entry_142
  have kb84 : ∀ (x8 : Int32) (z0 : Int32) (c_entries_size : Int32) (c_record_readSoFar : Int32) (c_tape_size : Int32) (c_transcript_settled : Int32) (a_entries_kinds : (Nat → Int32)) (a_entries_lengths : (Nat → Int32)) (a_entries_letters : (Nat → Int32)) (a_entries_strokeCounts : (Nat → Int32)) (a_entries_strokes : (Nat → Int32)) (a_outline : (Nat → Int32)) (H : Heap) (locs : List Loc) (ls : Array Slot), jf_Room_entry_b84 N x6 x7 a_tape_bytes x8 z0 c_entries_size c_record_readSoFar c_tape_size c_transcript_settled a_entries_kinds a_entries_lengths a_entries_letters a_entries_strokeCounts a_entries_strokes a_outline = some T → va_P E.1 vwCl (jw_Room_entry E q_this q_tape q_entries q_record q_page q_transcript q_planner q_runs q_chord q_outline q_entries_kinds q_entries_strokeCounts q_entries_strokes q_entries_lengths q_entries_letters q_record_keys q_record_firsts q_record_entries q_tape_bytes q_transcript_chord q_transcript_lasts q_transcript_behinds q_transcript_owners c_entries_size c_record_size c_record_readSoFar c_tape_size c_transcript_size c_transcript_raws c_transcript_settled a_entries_kinds a_entries_lengths a_entries_letters a_entries_strokeCounts a_entries_strokes a_outline a_tape_bytes) H → va_D A (jw_Room_entry E q_this q_tape q_entries q_record q_page q_transcript q_planner q_runs q_chord q_outline q_entries_kinds q_entries_strokeCounts q_entries_strokes q_entries_lengths q_entries_letters q_record_keys q_record_firsts q_record_entries q_tape_bytes q_transcript_chord q_transcript_lasts q_transcript_behinds q_transcript_owners c_entries_size c_record_size c_record_readSoFar c_tape_size c_transcript_size c_transcript_raws c_transcript_settled a_entries_kinds a_entries_lengths a_entries_letters a_entries_strokeCounts a_entries_strokes a_outline a_tape_bytes) → va_S A s.heap H locs → lv_has ls 10 [(0, .ref q_this), (6, .int x6), (7, .int x7), (8, .int x8)] → W p l e jr_Room_entry s m args below meth c H locs 0 0 Q (F0 m 84 ls [.int z0]) := by
    intro  x8 z0 c_entries_size c_record_readSoFar c_tape_size c_transcript_settled a_entries_kinds a_entries_lengths a_entries_letters a_entries_strokeCounts a_entries_strokes a_outline H locs ls h hP hD hS hl
    unfold jf_Room_entry_b84 at h
    refine lv_istore (lv' := [(9, .int z0), (0, .ref q_this), (6, .int x6), (7, .int x7), (8, .int x8)]) hx hb dX10_entry_84 hl (by decide) rfl (fun ls hl => ?_)
    refine lv_iload hx hb dX10_entry_86 (lv_at hl 0 rfl) ?_
    refine lv_if_eq (tgt := 117) hx hb dX10_entry_88 (by decide) (fun hq88 => ?_) (fun hq88 => ?_)
    · replace h := jif_t hq88 h
      exact kb117   z0 c_entries_size c_record_readSoFar c_tape_size c_transcript_settled a_entries_kinds a_entries_lengths a_entries_letters a_entries_strokeCounts a_entries_strokes a_outline _ _ _ h hP hD hS (lv_sub hl [1, 0] rfl)
    · replace h := jif_f hq88 h
      refine lv_aload_n hx hb dX10_entry_91 rfl (lv_at hl 1 rfl) ?_
      refine va_get (D := E.1) (ci := 10) (v := .ref q_entries) (C := RX10) (T := TX10) (N := 9) hx hb hts hin10 hown hK.1 hP 0 rfl rfl 1 (by decide) hk_19 (fun _ h9 => h9) rfl dX10_entry_92 ?_
      refine lv_aload_n hx hb dX10_entry_95 rfl (lv_at hl 1 rfl) ?_
      refine va_get (D := E.1) (ci := 10) (v := .ref q_outline) (C := RX10) (T := TX10) (N := 9) hx hb hts hin10 hown hK.1 hP 0 rfl rfl 8 (by decide) hk_71 (fun _ h9 => h9) rfl dX10_entry_96 ?_
      refine lv_iload hx hb dX10_entry_99 (lv_at hl 4 rfl) ?_
      refine lv_iload hx hb dX10_entry_101 (lv_at hl 2 rfl) ?_
      refine lv_aload_n hx hb dX10_entry_103 rfl (lv_at hl 1 rfl) ?_
      refine va_get (D := E.1) (ci := 10) (v := .ref q_tape) (C := RX10) (T := TX10) (N := 9) hx hb hts hin10 hown hK.1 hP 0 rfl rfl 0 (by decide) hk_10 (fun _ h9 => h9) rfl dX10_entry_104 ?_
      refine lv_iload hx hb dX10_entry_107 (lv_at hl 3 rfl) ?_
      obtain ⟨⟨c_entries_size_109, a_entries_kinds_109, a_entries_lengths_109, a_entries_letters_109, a_entries_strokeCounts_109, a_entries_strokes_109⟩, hf109, h⟩ := jbd h
      refine j_callVv (own := RX10) (As := [.ref q_outline, .int x8, .int x6, .ref q_tape, .int x7]) (rest := []) hx hb hml hown hts hK hA hP hD hS (jc_Book_add l E q_entries q_entries_kinds q_entries_strokeCounts q_entries_strokes q_entries_lengths q_entries_letters q_tape q_tape_bytes q_outline 5 c_entries_size c_tape_size a_outline a_tape_bytes a_entries_kinds a_entries_lengths a_entries_letters a_entries_strokeCounts a_entries_strokes x8 x6 x7 N hf109) gX10_entry_X0_add rfl ⟨rfl, rfl⟩ 5 (by decide +kernel) rfl rfl 1 0 rfl rfl [1, 3, 10, 11, 5, 6, 7, 8, 9] [0, 2, 4] [0, 3, 1, 4, 2, 7, 8, 9, 10, 11, 5, 6] rfl rfl rfl rfl rfl rfl rfl hl.1 rfl rfl dX10_entry_109 (fun H locs hP hD hS => ?_)
      replace hP : va_P E.1 vwCl (jw_Room_entry E q_this q_tape q_entries q_record q_page q_transcript q_planner q_runs q_chord q_outline q_entries_kinds q_entries_strokeCounts q_entries_strokes q_entries_lengths q_entries_letters q_record_keys q_record_firsts q_record_entries q_tape_bytes q_transcript_chord q_transcript_lasts q_transcript_behinds q_transcript_owners c_entries_size_109 c_record_size c_record_readSoFar c_tape_size c_transcript_size c_transcript_raws c_transcript_settled a_entries_kinds_109 a_entries_lengths_109 a_entries_letters_109 a_entries_strokeCounts_109 a_entries_strokes_109 a_outline a_tape_bytes) H := hP
      replace hD : va_D A (jw_Room_entry E q_this q_tape q_entries q_record q_page q_transcript q_planner q_runs q_chord q_outline q_entries_kinds q_entries_strokeCounts q_entries_strokes q_entries_lengths q_entries_letters q_record_keys q_record_firsts q_record_entries q_tape_bytes q_transcript_chord q_transcript_lasts q_transcript_behinds q_transcript_owners c_entries_size_109 c_record_size c_record_readSoFar c_tape_size c_transcript_size c_transcript_raws c_transcript_settled a_entries_kinds_109 a_entries_lengths_109 a_entries_letters_109 a_entries_strokeCounts_109 a_entries_strokes_109 a_outline a_tape_bytes) := hD
      refine lv_aload_n hx hb dX10_entry_112 rfl (lv_at hl 1 rfl) ?_
      refine lv_iconst (v := 0) hx hb dX10_entry_113 (by decide) ?_
      obtain ⟨⟨c_record_readSoFar_114, c_transcript_settled_114⟩, hf114, h⟩ := jbd h
      refine j_callVv (own := RX10) (As := [.int 0]) (rest := []) hx hb hml hown hts hK hA hP hD hS (jc_Room_readAnew l E q_this q_tape q_entries q_record q_page q_transcript q_planner q_runs q_chord q_outline q_record_keys q_record_firsts q_record_entries q_transcript_chord q_transcript_lasts q_transcript_behinds q_transcript_owners c_record_size c_record_readSoFar c_transcript_size c_transcript_raws c_transcript_settled 0 N hf114) gX10_entry_X10_readAnew rfl ⟨rfl, rfl⟩ 1 (by decide +kernel) rfl rfl 0 10 rfl rfl [0, 2, 4] [1, 3, 5, 6, 7, 8, 9, 10, 11] [9, 0, 10, 1, 11, 2, 3, 4, 5, 6, 7, 8] rfl rfl rfl rfl rfl rfl rfl hl.1 rfl rfl dX10_entry_114 (fun H locs hP hD hS => ?_)
      replace hP : va_P E.1 vwCl (jw_Room_entry E q_this q_tape q_entries q_record q_page q_transcript q_planner q_runs q_chord q_outline q_entries_kinds q_entries_strokeCounts q_entries_strokes q_entries_lengths q_entries_letters q_record_keys q_record_firsts q_record_entries q_tape_bytes q_transcript_chord q_transcript_lasts q_transcript_behinds q_transcript_owners c_entries_size_109 c_record_size c_record_readSoFar_114 c_tape_size c_transcript_size c_transcript_raws c_transcript_settled_114 a_entries_kinds_109 a_entries_lengths_109 a_entries_letters_109 a_entries_strokeCounts_109 a_entries_strokes_109 a_outline a_tape_bytes) H := hP
      replace hD : va_D A (jw_Room_entry E q_this q_tape q_entries q_record q_page q_transcript q_planner q_runs q_chord q_outline q_entries_kinds q_entries_strokeCounts q_entries_strokes q_entries_lengths q_entries_letters q_record_keys q_record_firsts q_record_entries q_tape_bytes q_transcript_chord q_transcript_lasts q_transcript_behinds q_transcript_owners c_entries_size_109 c_record_size c_record_readSoFar_114 c_tape_size c_transcript_size c_transcript_raws c_transcript_settled_114 a_entries_kinds_109 a_entries_lengths_109 a_entries_letters_109 a_entries_strokeCounts_109 a_entries_strokes_109 a_outline a_tape_bytes) := hD
      exact kb117   z0 c_entries_size_109 c_record_readSoFar_114 c_tape_size c_transcript_settled_114 a_entries_kinds_109 a_entries_lengths_109 a_entries_letters_109 a_entries_strokeCounts_109 a_entries_strokes_109 a_outline _ _ _ h hP hD hS (lv_sub hl [1, 0] rfl)
  have kb83 : ∀ (x8 : Int32) (c_entries_size : Int32) (c_record_readSoFar : Int32) (c_tape_size : Int32) (c_transcript_settled : Int32) (a_entries_kinds : (Nat → Int32)) (a_entries_lengths : (Nat → Int32)) (a_entries_letters : (Nat → Int32)) (a_entries_strokeCounts : (Nat → Int32)) (a_entries_strokes : (Nat → Int32)) (a_outline : (Nat → Int32)) (H : Heap) (locs : List Loc) (ls : Array Slot), jf_Room_entry_b83 N x6 x7 a_tape_bytes x8 c_entries_size c_record_readSoFar c_tape_size c_transcript_settled a_entries_kinds a_entries_lengths a_entries_letters a_entries_strokeCounts a_entries_strokes a_outline = some T → va_P E.1 vwCl (jw_Room_entry E q_this q_tape q_entries q_record q_page q_transcript q_planner q_runs q_chord q_outline q_entries_kinds q_entries_strokeCounts q_entries_strokes q_entries_lengths q_entries_letters q_record_keys q_record_firsts q_record_entries q_tape_bytes q_transcript_chord q_transcript_lasts q_transcript_behinds q_transcript_owners c_entries_size c_record_size c_record_readSoFar c_tape_size c_transcript_size c_transcript_raws c_transcript_settled a_entries_kinds a_entries_lengths a_entries_letters a_entries_strokeCounts a_entries_strokes a_outline a_tape_bytes) H → va_D A (jw_Room_entry E q_this q_tape q_entries q_record q_page q_transcript q_planner q_runs q_chord q_outline q_entries_kinds q_entries_strokeCounts q_entries_strokes q_entries_lengths q_entries_letters q_record_keys q_record_firsts q_record_entries q_tape_bytes q_transcript_chord q_transcript_lasts q_transcript_behinds q_transcript_owners c_entries_size c_record_size c_record_readSoFar c_tape_size c_transcript_size c_transcript_raws c_transcript_settled a_entries_kinds a_entries_lengths a_entries_letters a_entries_strokeCounts a_entries_strokes a_outline a_tape_bytes) → va_S A s.heap H locs → lv_has ls 10 [(0, .ref q_this), (6, .int x6), (7, .int x7), (8, .int x8)] → W p l e jr_Room_entry s m args below meth c H locs 0 0 Q (F0 m 83 ls []) := by
    intro  x8 c_entries_size c_record_readSoFar c_tape_size c_transcript_settled a_entries_kinds a_entries_lengths a_entries_letters a_entries_strokeCounts a_entries_strokes a_outline H locs ls h hP hD hS hl
    unfold jf_Room_entry_b83 at h
    refine lv_iconst (v := 0) hx hb dX10_entry_83 (by decide) ?_
    exact kb84   x8 0 c_entries_size c_record_readSoFar c_tape_size c_transcript_settled a_entries_kinds a_entries_lengths a_entries_letters a_entries_strokeCounts a_entries_strokes a_outline _ _ _ h hP hD hS (lv_sub hl [0, 1, 2, 3] rfl)
  unfold jf_Room_entry at h
  refine lv_aload_n hx hb dX10_entry_0 rfl (lv_at hl 0 rfl) ?_
  refine lv_iload_n hx hb dX10_entry_1 rfl (lv_at hl 1 rfl) ?_
  refine lv_iload_n hx hb dX10_entry_2 rfl (lv_at hl 2 rfl) ?_
  refine lv_iload_n hx hb dX10_entry_3 rfl (lv_at hl 3 rfl) ?_
  refine lv_iload hx hb dX10_entry_4 (lv_at hl 4 rfl) ?_
  refine lv_iload hx hb dX10_entry_6 (lv_at hl 5 rfl) ?_
  obtain ⟨⟨r8, a_outline_8⟩, hf8, h⟩ := jbd h
  refine j_callVi (own := RX10) (As := [.int x1, .int x2, .int x3, .int x4, .int x5]) (rest := []) hx hb hml hown hts hK hA hP hD hS (jc_Room_layOutline l E q_this q_tape q_entries q_record q_page q_transcript q_planner q_runs q_chord q_outline a_outline x1 x2 x3 x4 x5 N hf8) gX10_entry_X10_layOutline rfl ⟨rfl, rfl⟩ 5 (by decide +kernel) rfl rfl 0 10 rfl rfl [0, 10] [1, 2, 3, 4, 5, 6, 7, 8, 9, 11] [10, 0, 1, 2, 3, 4, 5, 6, 7, 8, 11, 9] rfl rfl rfl rfl rfl rfl rfl hl.1 rfl rfl dX10_entry_8 (fun H locs hP hD hS => ?_)
  replace hP : va_P E.1 vwCl (jw_Room_entry E q_this q_tape q_entries q_record q_page q_transcript q_planner q_runs q_chord q_outline q_entries_kinds q_entries_strokeCounts q_entries_strokes q_entries_lengths q_entries_letters q_record_keys q_record_firsts q_record_entries q_tape_bytes q_transcript_chord q_transcript_lasts q_transcript_behinds q_transcript_owners c_entries_size c_record_size c_record_readSoFar c_tape_size c_transcript_size c_transcript_raws c_transcript_settled a_entries_kinds a_entries_lengths a_entries_letters a_entries_strokeCounts a_entries_strokes a_outline_8 a_tape_bytes) H := hP
  replace hD : va_D A (jw_Room_entry E q_this q_tape q_entries q_record q_page q_transcript q_planner q_runs q_chord q_outline q_entries_kinds q_entries_strokeCounts q_entries_strokes q_entries_lengths q_entries_letters q_record_keys q_record_firsts q_record_entries q_tape_bytes q_transcript_chord q_transcript_lasts q_transcript_behinds q_transcript_owners c_entries_size c_record_size c_record_readSoFar c_tape_size c_transcript_size c_transcript_raws c_transcript_settled a_entries_kinds a_entries_lengths a_entries_letters a_entries_strokeCounts a_entries_strokes a_outline_8 a_tape_bytes) := hD
  refine lv_istore (lv' := [(8, .int r8), (0, .ref q_this), (1, .int x1), (2, .int x2), (3, .int x3), (4, .int x4), (5, .int x5), (6, .int x6), (7, .int x7)]) hx hb dX10_entry_11 hl (by decide) rfl (fun ls hl => ?_)
  refine lv_iload hx hb dX10_entry_13 (lv_at hl 0 rfl) ?_
  refine lv_if_eq (tgt := 40) hx hb dX10_entry_15 (by decide) (fun hq15 => ?_) (fun hq15 => ?_)
  · replace h := jif_t hq15 h
    refine lv_iconst (v := (-1)) hx hb dX10_entry_40 (by decide) ?_
    exact j_iret (u := ((-1), c_entries_size, c_record_readSoFar, c_tape_size, c_transcript_settled, a_entries_kinds, a_entries_lengths, a_entries_letters, a_entries_strokeCounts, a_entries_strokes, a_outline_8)) (rv := (fun T => T.1)) (wv := (fun T => (jw_Room_entry E q_this q_tape q_entries q_record q_page q_transcript q_planner q_runs q_chord q_outline q_entries_kinds q_entries_strokeCounts q_entries_strokes q_entries_lengths q_entries_letters q_record_keys q_record_firsts q_record_entries q_tape_bytes q_transcript_chord q_transcript_lasts q_transcript_behinds q_transcript_owners T.2.1 c_record_size T.2.2.1 T.2.2.2.1 c_transcript_size c_transcript_raws T.2.2.2.2.1 T.2.2.2.2.2.1 T.2.2.2.2.2.2.1 T.2.2.2.2.2.2.2.1 T.2.2.2.2.2.2.2.2.1 T.2.2.2.2.2.2.2.2.2.1 T.2.2.2.2.2.2.2.2.2.2 a_tape_bytes))) h hQ hx hb hr rfl hlocks hS hP hD dX10_entry_41
  · replace h := jif_f hq15 h
    refine lv_iload hx hb dX10_entry_18 (lv_at hl 7 rfl) ?_
    refine lv_iload hx hb dX10_entry_20 (lv_at hl 8 rfl) ?_
    obtain ⟨r22, hf22, h⟩ := jbd h
    refine j_callSi (own := RX10) (As := [.int x6, .int x7]) (rest := []) hx hb hml hown hts hK hA hP hD hS (jc_Book_takesLength l E x6 x7 N hf22) gX10_entry_X0_takesLength rfl ⟨rfl, rfl⟩ 2 (by decide +kernel) rfl rfl [] [0, 1, 2, 3, 4, 5, 6, 7, 8, 9, 10, 11] [0, 1, 2, 3, 4, 5, 6, 7, 8, 9, 10, 11] rfl rfl rfl rfl rfl rfl rfl hl.1 rfl rfl dX10_entry_22 (fun H locs hP hD hS => ?_)
    replace hP : va_P E.1 vwCl (jw_Room_entry E q_this q_tape q_entries q_record q_page q_transcript q_planner q_runs q_chord q_outline q_entries_kinds q_entries_strokeCounts q_entries_strokes q_entries_lengths q_entries_letters q_record_keys q_record_firsts q_record_entries q_tape_bytes q_transcript_chord q_transcript_lasts q_transcript_behinds q_transcript_owners c_entries_size c_record_size c_record_readSoFar c_tape_size c_transcript_size c_transcript_raws c_transcript_settled a_entries_kinds a_entries_lengths a_entries_letters a_entries_strokeCounts a_entries_strokes a_outline_8 a_tape_bytes) H := hP
    replace hD : va_D A (jw_Room_entry E q_this q_tape q_entries q_record q_page q_transcript q_planner q_runs q_chord q_outline q_entries_kinds q_entries_strokeCounts q_entries_strokes q_entries_lengths q_entries_letters q_record_keys q_record_firsts q_record_entries q_tape_bytes q_transcript_chord q_transcript_lasts q_transcript_behinds q_transcript_owners c_entries_size c_record_size c_record_readSoFar c_tape_size c_transcript_size c_transcript_raws c_transcript_settled a_entries_kinds a_entries_lengths a_entries_letters a_entries_strokeCounts a_entries_strokes a_outline_8 a_tape_bytes) := hD
    refine lv_if_eq (tgt := 40) hx hb dX10_entry_25 (by decide) (fun hq25 => ?_) (fun hq25 => ?_)
    · replace h := jif_t hq25 h
      refine lv_iconst (v := (-1)) hx hb dX10_entry_40 (by decide) ?_
      exact j_iret (u := ((-1), c_entries_size, c_record_readSoFar, c_tape_size, c_transcript_settled, a_entries_kinds, a_entries_lengths, a_entries_letters, a_entries_strokeCounts, a_entries_strokes, a_outline_8)) (rv := (fun T => T.1)) (wv := (fun T => (jw_Room_entry E q_this q_tape q_entries q_record q_page q_transcript q_planner q_runs q_chord q_outline q_entries_kinds q_entries_strokeCounts q_entries_strokes q_entries_lengths q_entries_letters q_record_keys q_record_firsts q_record_entries q_tape_bytes q_transcript_chord q_transcript_lasts q_transcript_behinds q_transcript_owners T.2.1 c_record_size T.2.2.1 T.2.2.2.1 c_transcript_size c_transcript_raws T.2.2.2.2.1 T.2.2.2.2.2.1 T.2.2.2.2.2.2.1 T.2.2.2.2.2.2.2.1 T.2.2.2.2.2.2.2.2.1 T.2.2.2.2.2.2.2.2.2.1 T.2.2.2.2.2.2.2.2.2.2 a_tape_bytes))) h hQ hx hb hr rfl hlocks hS hP hD dX10_entry_41
    · replace h := jif_f hq25 h
      refine lv_iload hx hb dX10_entry_28 (lv_at hl 8 rfl) ?_
      refine lv_aload_n hx hb dX10_entry_30 rfl (lv_at hl 1 rfl) ?_
      refine va_get (D := E.1) (ci := 10) (v := .ref q_tape) (C := RX10) (T := TX10) (N := 9) hx hb hts hin10 hown hK.1 hP 0 rfl rfl 0 (by decide) hk_10 (fun _ h9 => h9) rfl dX10_entry_31 ?_
      obtain ⟨r34, hf34, h⟩ := jbd h
      refine j_callVi (own := RX10) (As := []) (rest := [.int x7]) hx hb hml hown hts hK hA hP hD hS (jc_Tape_size l E q_tape q_tape_bytes c_tape_size N hf34) gX10_entry_X8_size rfl ⟨rfl, rfl⟩ 0 (by decide +kernel) rfl rfl 3 8 rfl rfl [3] [0, 1, 2, 4, 5, 6, 7, 8, 9, 10, 11] [0, 1, 2, 11, 3, 4, 5, 6, 7, 8, 9, 10] rfl rfl rfl rfl rfl rfl rfl hl.1 rfl rfl dX10_entry_34 (fun H locs hP hD hS => ?_)
      replace hP : va_P E.1 vwCl (jw_Room_entry E q_this q_tape q_entries q_record q_page q_transcript q_planner q_runs q_chord q_outline q_entries_kinds q_entries_strokeCounts q_entries_strokes q_entries_lengths q_entries_letters q_record_keys q_record_firsts q_record_entries q_tape_bytes q_transcript_chord q_transcript_lasts q_transcript_behinds q_transcript_owners c_entries_size c_record_size c_record_readSoFar c_tape_size c_transcript_size c_transcript_raws c_transcript_settled a_entries_kinds a_entries_lengths a_entries_letters a_entries_strokeCounts a_entries_strokes a_outline_8 a_tape_bytes) H := hP
      replace hD : va_D A (jw_Room_entry E q_this q_tape q_entries q_record q_page q_transcript q_planner q_runs q_chord q_outline q_entries_kinds q_entries_strokeCounts q_entries_strokes q_entries_lengths q_entries_letters q_record_keys q_record_firsts q_record_entries q_tape_bytes q_transcript_chord q_transcript_lasts q_transcript_behinds q_transcript_owners c_entries_size c_record_size c_record_readSoFar c_tape_size c_transcript_size c_transcript_raws c_transcript_settled a_entries_kinds a_entries_lengths a_entries_letters a_entries_strokeCounts a_entries_strokes a_outline_8 a_tape_bytes) := hD
      refine lv_icmp_le (tgt := 42) hx hb dX10_entry_37 (by decide) (fun hq37 => ?_) (fun hq37 => ?_)
      · replace h := jif_t hq37 h
        refine lv_aload_n hx hb dX10_entry_42 rfl (lv_at hl 1 rfl) ?_
        refine lv_iload hx hb dX10_entry_43 (lv_at hl 7 rfl) ?_
        refine lv_iload hx hb dX10_entry_45 (lv_at hl 8 rfl) ?_
        obtain ⟨r47, hf47, h⟩ := jbd h
        refine j_callVi (own := RX10) (As := [.int x6, .int x7]) (rest := []) hx hb hml hown hts hK hA hP hD hS (jc_Room_tapeFits l E q_this q_tape q_entries q_record q_page q_transcript q_planner q_runs q_chord q_outline q_tape_bytes c_tape_size a_tape_bytes x6 x7 N hf47) gX10_entry_X10_tapeFits rfl ⟨rfl, rfl⟩ 2 (by decide +kernel) rfl rfl 0 10 rfl rfl [0, 3, 11] [1, 2, 4, 5, 6, 7, 8, 9, 10] [9, 0, 1, 10, 2, 3, 4, 5, 6, 7, 8, 11] rfl rfl rfl rfl rfl rfl rfl hl.1 rfl rfl dX10_entry_47 (fun H locs hP hD hS => ?_)
        replace hP : va_P E.1 vwCl (jw_Room_entry E q_this q_tape q_entries q_record q_page q_transcript q_planner q_runs q_chord q_outline q_entries_kinds q_entries_strokeCounts q_entries_strokes q_entries_lengths q_entries_letters q_record_keys q_record_firsts q_record_entries q_tape_bytes q_transcript_chord q_transcript_lasts q_transcript_behinds q_transcript_owners c_entries_size c_record_size c_record_readSoFar c_tape_size c_transcript_size c_transcript_raws c_transcript_settled a_entries_kinds a_entries_lengths a_entries_letters a_entries_strokeCounts a_entries_strokes a_outline_8 a_tape_bytes) H := hP
        replace hD : va_D A (jw_Room_entry E q_this q_tape q_entries q_record q_page q_transcript q_planner q_runs q_chord q_outline q_entries_kinds q_entries_strokeCounts q_entries_strokes q_entries_lengths q_entries_letters q_record_keys q_record_firsts q_record_entries q_tape_bytes q_transcript_chord q_transcript_lasts q_transcript_behinds q_transcript_owners c_entries_size c_record_size c_record_readSoFar c_tape_size c_transcript_size c_transcript_raws c_transcript_settled a_entries_kinds a_entries_lengths a_entries_letters a_entries_strokeCounts a_entries_strokes a_outline_8 a_tape_bytes) := hD
        refine lv_if_eq (tgt := 83) hx hb dX10_entry_50 (by decide) (fun hq50 => ?_) (fun hq50 => ?_)
        · replace h := jif_t hq50 h
          exact kb83   r8 c_entries_size c_record_readSoFar c_tape_size c_transcript_settled a_entries_kinds a_entries_lengths a_entries_letters a_entries_strokeCounts a_entries_strokes a_outline_8 _ _ _ h hP hD hS (lv_sub hl [1, 7, 8, 0] rfl)
        · replace h := jif_f hq50 h
          refine lv_aload_n hx hb dX10_entry_53 rfl (lv_at hl 1 rfl) ?_
          refine va_get (D := E.1) (ci := 10) (v := .ref q_entries) (C := RX10) (T := TX10) (N := 9) hx hb hts hin10 hown hK.1 hP 0 rfl rfl 1 (by decide) hk_19 (fun _ h9 => h9) rfl dX10_entry_54 ?_
          obtain ⟨r57, hf57, h⟩ := jbd h
          refine j_callVi (own := RX10) (As := []) (rest := []) hx hb hml hown hts hK hA hP hD hS (jc_Book_isFull l E q_entries q_entries_kinds q_entries_strokeCounts q_entries_strokes q_entries_lengths q_entries_letters c_entries_size N hf57) gX10_entry_X0_isFull rfl ⟨rfl, rfl⟩ 0 (by decide +kernel) rfl rfl 1 0 rfl rfl [1] [0, 2, 3, 4, 5, 6, 7, 8, 9, 10, 11] [0, 11, 1, 2, 3, 4, 5, 6, 7, 8, 9, 10] rfl rfl rfl rfl rfl rfl rfl hl.1 rfl rfl dX10_entry_57 (fun H locs hP hD hS => ?_)
          replace hP : va_P E.1 vwCl (jw_Room_entry E q_this q_tape q_entries q_record q_page q_transcript q_planner q_runs q_chord q_outline q_entries_kinds q_entries_strokeCounts q_entries_strokes q_entries_lengths q_entries_letters q_record_keys q_record_firsts q_record_entries q_tape_bytes q_transcript_chord q_transcript_lasts q_transcript_behinds q_transcript_owners c_entries_size c_record_size c_record_readSoFar c_tape_size c_transcript_size c_transcript_raws c_transcript_settled a_entries_kinds a_entries_lengths a_entries_letters a_entries_strokeCounts a_entries_strokes a_outline_8 a_tape_bytes) H := hP
          replace hD : va_D A (jw_Room_entry E q_this q_tape q_entries q_record q_page q_transcript q_planner q_runs q_chord q_outline q_entries_kinds q_entries_strokeCounts q_entries_strokes q_entries_lengths q_entries_letters q_record_keys q_record_firsts q_record_entries q_tape_bytes q_transcript_chord q_transcript_lasts q_transcript_behinds q_transcript_owners c_entries_size c_record_size c_record_readSoFar c_tape_size c_transcript_size c_transcript_raws c_transcript_settled a_entries_kinds a_entries_lengths a_entries_letters a_entries_strokeCounts a_entries_strokes a_outline_8 a_tape_bytes) := hD
          refine lv_if_ne (tgt := 83) hx hb dX10_entry_60 (by decide) (fun hq60 => ?_) (fun hq60 => ?_)
          · replace h := jif_f hq60 h
            exact kb83   r8 c_entries_size c_record_readSoFar c_tape_size c_transcript_settled a_entries_kinds a_entries_lengths a_entries_letters a_entries_strokeCounts a_entries_strokes a_outline_8 _ _ _ h hP hD hS (lv_sub hl [1, 7, 8, 0] rfl)
          · replace h := jif_t hq60 h
            refine lv_aload_n hx hb dX10_entry_63 rfl (lv_at hl 1 rfl) ?_
            refine va_get (D := E.1) (ci := 10) (v := .ref q_entries) (C := RX10) (T := TX10) (N := 9) hx hb hts hin10 hown hK.1 hP 0 rfl rfl 1 (by decide) hk_19 (fun _ h9 => h9) rfl dX10_entry_64 ?_
            refine lv_aload_n hx hb dX10_entry_67 rfl (lv_at hl 1 rfl) ?_
            refine va_get (D := E.1) (ci := 10) (v := .ref q_outline) (C := RX10) (T := TX10) (N := 9) hx hb hts hin10 hown hK.1 hP 0 rfl rfl 8 (by decide) hk_71 (fun _ h9 => h9) rfl dX10_entry_68 ?_
            refine lv_iload hx hb dX10_entry_71 (lv_at hl 0 rfl) ?_
            obtain ⟨r73, hf73, h⟩ := jbd h
            refine j_callVi (own := RX10) (As := [.ref q_outline, .int r8]) (rest := []) hx hb hml hown hts hK hA hP hD hS (jc_Book_hasOutline l E q_entries q_entries_kinds q_entries_strokeCounts q_entries_strokes q_entries_lengths q_entries_letters q_outline 5 c_entries_size a_outline_8 a_entries_strokeCounts a_entries_strokes r8 N hf73) gX10_entry_X0_hasOutline rfl ⟨rfl, rfl⟩ 2 (by decide +kernel) rfl rfl 1 0 rfl rfl [1, 10, 8, 9] [0, 2, 3, 4, 5, 6, 7, 11] [0, 8, 1, 2, 3, 4, 5, 6, 10, 11, 9, 7] rfl rfl rfl rfl rfl rfl rfl hl.1 rfl rfl dX10_entry_73 (fun H locs hP hD hS => ?_)
            replace hP : va_P E.1 vwCl (jw_Room_entry E q_this q_tape q_entries q_record q_page q_transcript q_planner q_runs q_chord q_outline q_entries_kinds q_entries_strokeCounts q_entries_strokes q_entries_lengths q_entries_letters q_record_keys q_record_firsts q_record_entries q_tape_bytes q_transcript_chord q_transcript_lasts q_transcript_behinds q_transcript_owners c_entries_size c_record_size c_record_readSoFar c_tape_size c_transcript_size c_transcript_raws c_transcript_settled a_entries_kinds a_entries_lengths a_entries_letters a_entries_strokeCounts a_entries_strokes a_outline_8 a_tape_bytes) H := hP
            replace hD : va_D A (jw_Room_entry E q_this q_tape q_entries q_record q_page q_transcript q_planner q_runs q_chord q_outline q_entries_kinds q_entries_strokeCounts q_entries_strokes q_entries_lengths q_entries_letters q_record_keys q_record_firsts q_record_entries q_tape_bytes q_transcript_chord q_transcript_lasts q_transcript_behinds q_transcript_owners c_entries_size c_record_size c_record_readSoFar c_tape_size c_transcript_size c_transcript_raws c_transcript_settled a_entries_kinds a_entries_lengths a_entries_letters a_entries_strokeCounts a_entries_strokes a_outline_8 a_tape_bytes) := hD
            refine lv_if_ne (tgt := 83) hx hb dX10_entry_76 (by decide) (fun hq76 => ?_) (fun hq76 => ?_)
            · replace h := jif_f hq76 h
              exact kb83   r8 c_entries_size c_record_readSoFar c_tape_size c_transcript_settled a_entries_kinds a_entries_lengths a_entries_letters a_entries_strokeCounts a_entries_strokes a_outline_8 _ _ _ h hP hD hS (lv_sub hl [1, 7, 8, 0] rfl)
            · replace h := jif_t hq76 h
              refine lv_iconst (v := 1) hx hb dX10_entry_79 (by decide) ?_
              refine lv_goto (tgt := 84) hx hb dX10_entry_80 (by decide) ?_
              exact kb84   r8 1 c_entries_size c_record_readSoFar c_tape_size c_transcript_settled a_entries_kinds a_entries_lengths a_entries_letters a_entries_strokeCounts a_entries_strokes a_outline_8 _ _ _ h hP hD hS (lv_sub hl [1, 7, 8, 0] rfl)
      · replace h := jif_f hq37 h
        refine lv_iconst (v := (-1)) hx hb dX10_entry_40 (by decide) ?_
        exact j_iret (u := ((-1), c_entries_size, c_record_readSoFar, c_tape_size, c_transcript_settled, a_entries_kinds, a_entries_lengths, a_entries_letters, a_entries_strokeCounts, a_entries_strokes, a_outline_8)) (rv := (fun T => T.1)) (wv := (fun T => (jw_Room_entry E q_this q_tape q_entries q_record q_page q_transcript q_planner q_runs q_chord q_outline q_entries_kinds q_entries_strokeCounts q_entries_strokes q_entries_lengths q_entries_letters q_record_keys q_record_firsts q_record_entries q_tape_bytes q_transcript_chord q_transcript_lasts q_transcript_behinds q_transcript_owners T.2.1 c_record_size T.2.2.1 T.2.2.2.1 c_transcript_size c_transcript_raws T.2.2.2.2.1 T.2.2.2.2.2.1 T.2.2.2.2.2.2.1 T.2.2.2.2.2.2.2.1 T.2.2.2.2.2.2.2.2.1 T.2.2.2.2.2.2.2.2.2.1 T.2.2.2.2.2.2.2.2.2.2 a_tape_bytes))) h hQ hx hb hr rfl hlocks hS hP hD dX10_entry_41
abbrev jw_Book_has (E : jE) (q_this q_kinds q_strokeCounts q_strokes q_lengths q_letters : Nat) (c_size : Int32) : va_W := [(q_this, .inr (0, [.ref q_kinds, .ref q_strokeCounts, .ref q_strokes, .ref q_lengths, .ref q_letters, .int c_size]))]
def jr_Book_has : Room := { frames := 0, cells := 0, slots := 0, locals := 0 }
set_option maxHeartbeats 4000000 in
set_option maxRecDepth 100000 in
theorem jc_Book_has (l : Launch) (E : jE) (q_this q_kinds q_strokeCounts q_strokes q_lengths q_letters : Nat) (c_size : Int32) (x1 : Int32) (N : Nat) {T : Int32} (h : jf_Book_has x1 c_size = some T) : jMi l yX0_has wsX0_has jr_Book_has E [.ref q_this, .int x1] (jw_Book_has E q_this q_kinds q_strokeCounts q_strokes q_lengths q_letters c_size) (T) (jw_Book_has E q_this q_kinds q_strokeCounts q_strokes q_lengths q_letters c_size) := by
  refine jMi.begin (cc := cX0_has) (maxL := 2) (ret := (some .boolean)) (by decide) rfl (Nat.le_of_ble_eq_true rfl) ?_
  intro p e s m args below meth c A ls Q hQ hx hb hr hml hown hlocks hts hK hA hP hD hS hl
  replace hown : s.vm.findClass RX0 = some m.cls := hown
  replace hl : lv_has ls 2 [(0, .ref q_this), (1, .int x1)] := hl
  have hin0 : ∀ w ∈ u_ws RX0 TX0 6, w ∈ wsX0_has := by decide +kernel
  have hk_32 := hts (.fieldLink RX0 32 "StenoRoom$Book" "size" "I") (by decide +kernel)
  unfold jf_Book_has at h
  refine lv_iload_n hx hb dX0_has_0 rfl (lv_at hl 1 rfl) ?_
  refine lv_if_lt (tgt := 16) hx hb dX0_has_1 (by decide) (fun hq1 => ?_) (fun hq1 => ?_)
  · replace h := jif_t hq1 h
    refine lv_iconst (v := 0) hx hb dX0_has_16 (by decide) ?_
    exact j_iret (u := 0) (rv := (fun T => T)) (wv := (fun _ => (jw_Book_has E q_this q_kinds q_strokeCounts q_strokes q_lengths q_letters c_size))) h hQ hx hb hr jb_0 hlocks hS hP hD dX0_has_17
  · replace h := jif_f hq1 h
    refine lv_iload_n hx hb dX0_has_4 rfl (lv_at hl 1 rfl) ?_
    refine lv_aload_n hx hb dX0_has_5 rfl (lv_at hl 0 rfl) ?_
    refine va_get (D := E.1) (ci := 0) (v := .int c_size) (C := RX0) (T := TX0) (N := 6) hx hb hts hin0 hown hK.1 hP 0 rfl rfl 5 (by decide) hk_32 (fun _ h9 => h9) rfl dX0_has_6 ?_
    refine lv_icmp_ge (tgt := 16) hx hb dX0_has_9 (by decide) (fun hq9 => ?_) (fun hq9 => ?_)
    · replace h := jif_t hq9 h
      refine lv_iconst (v := 0) hx hb dX0_has_16 (by decide) ?_
      exact j_iret (u := 0) (rv := (fun T => T)) (wv := (fun _ => (jw_Book_has E q_this q_kinds q_strokeCounts q_strokes q_lengths q_letters c_size))) h hQ hx hb hr jb_0 hlocks hS hP hD dX0_has_17
    · replace h := jif_f hq9 h
      refine lv_iconst (v := 1) hx hb dX0_has_12 (by decide) ?_
      refine lv_goto (tgt := 17) hx hb dX0_has_13 (by decide) ?_
      exact j_iret (u := 1) (rv := (fun T => T)) (wv := (fun _ => (jw_Book_has E q_this q_kinds q_strokeCounts q_strokes q_lengths q_letters c_size))) h hQ hx hb hr jb_1 hlocks hS hP hD dX0_has_17
abbrev jw_Book_remove (E : jE) (q_this q_kinds q_strokeCounts q_strokes q_lengths q_letters : Nat) (c_size : Int32) (a_kinds : (Nat → Int32)) (a_lengths : (Nat → Int32)) (a_letters : (Nat → Int32)) (a_strokeCounts : (Nat → Int32)) (a_strokes : (Nat → Int32)) : va_W := [(q_this, .inr (0, [.ref q_kinds, .ref q_strokeCounts, .ref q_strokes, .ref q_lengths, .ref q_letters, .int c_size])), (q_kinds, .inl (E.2.2.1, 60, .inl a_kinds)), (q_lengths, .inl (E.2.2.1, 60, .inl a_lengths)), (q_letters, .inl (E.2.1, 960, .inl a_letters)), (q_strokeCounts, .inl (E.2.2.1, 60, .inl a_strokeCounts)), (q_strokes, .inl (E.2.2.1, 300, .inl a_strokes))]
def jr_Book_remove : Room := { frames := 1, cells := 0, slots := 0, locals := 40 }
set_option maxHeartbeats 4000000 in
set_option maxRecDepth 100000 in
theorem jc_Book_remove (l : Launch) (E : jE) (q_this q_kinds q_strokeCounts q_strokes q_lengths q_letters : Nat) (c_size : Int32) (a_kinds : (Nat → Int32)) (a_lengths : (Nat → Int32)) (a_letters : (Nat → Int32)) (a_strokeCounts : (Nat → Int32)) (a_strokes : (Nat → Int32)) (x1 : Int32) (N : Nat) {T : Int32 × (Nat → Int32) × (Nat → Int32) × (Nat → Int32) × (Nat → Int32) × (Nat → Int32)} (h : jf_Book_remove x1 c_size a_kinds a_lengths a_letters a_strokeCounts a_strokes = some T) : jMv l yX0_remove wsX0_remove jr_Book_remove E [.ref q_this, .int x1] (jw_Book_remove E q_this q_kinds q_strokeCounts q_strokes q_lengths q_letters c_size a_kinds a_lengths a_letters a_strokeCounts a_strokes) (jw_Book_remove E q_this q_kinds q_strokeCounts q_strokes q_lengths q_letters T.1 T.2.1 T.2.2.1 T.2.2.2.1 T.2.2.2.2.1 T.2.2.2.2.2) := by
  refine jMv.begin (cc := cX0_remove) (maxL := 4) (ret := none) (by decide) rfl (Nat.le_of_ble_eq_true rfl) ?_
  intro p e s m args below meth c A ls Q hQ hx hb hr hml hown hlocks hts hK hA hP hD hS hl
  replace hown : s.vm.findClass RX0 = some m.cls := hown
  replace hl : lv_has ls 4 [(0, .ref q_this), (1, .int x1)] := hl
  have hin0 : ∀ w ∈ u_ws RX0 TX0 6, w ∈ wsX0_remove := by decide +kernel
  have hk_9 := hts (.fieldLink RX0 9 "StenoRoom$Book" "kinds" "[I") (by decide +kernel)
  have hk_15 := hts (.fieldLink RX0 15 "StenoRoom$Book" "strokeCounts" "[I") (by decide +kernel)
  have hk_18 := hts (.fieldLink RX0 18 "StenoRoom$Book" "strokes" "[I") (by decide +kernel)
  have hk_21 := hts (.fieldLink RX0 21 "StenoRoom$Book" "lengths" "[I") (by decide +kernel)
  have hk_24 := hts (.fieldLink RX0 24 "StenoRoom$Book" "letters" "[B") (by decide +kernel)
  have hk_32 := hts (.fieldLink RX0 32 "StenoRoom$Book" "size" "I") (by decide +kernel)
  unfold jf_Book_remove at h
  refine lv_iload_n hx hb dX0_remove_0 rfl (lv_at hl 1 rfl) ?_
  refine lv_if_lt (tgt := 12) hx hb dX0_remove_1 (by decide) (fun hq1 => ?_) (fun hq1 => ?_)
  · replace h := jif_t hq1 h
    exact j_vret (u := (c_size, a_kinds, a_lengths, a_letters, a_strokeCounts, a_strokes)) (wv := (fun T => (jw_Book_remove E q_this q_kinds q_strokeCounts q_strokes q_lengths q_letters T.1 T.2.1 T.2.2.1 T.2.2.2.1 T.2.2.2.2.1 T.2.2.2.2.2))) h hQ hx hb hr hlocks hS hP hD dX0_remove_12
  · replace h := jif_f hq1 h
    refine lv_iload_n hx hb dX0_remove_4 rfl (lv_at hl 1 rfl) ?_
    refine lv_aload_n hx hb dX0_remove_5 rfl (lv_at hl 0 rfl) ?_
    refine va_get (D := E.1) (ci := 0) (v := .int c_size) (C := RX0) (T := TX0) (N := 6) hx hb hts hin0 hown hK.1 hP 0 rfl rfl 5 (by decide) hk_32 (fun _ h9 => h9) rfl dX0_remove_6 ?_
    refine lv_icmp_lt (tgt := 13) hx hb dX0_remove_9 (by decide) (fun hq9 => ?_) (fun hq9 => ?_)
    · replace h := jif_t hq9 h
      refine lv_iload_n hx hb dX0_remove_13 rfl (lv_at hl 1 rfl) ?_
      refine lv_iconst (v := 1) hx hb dX0_remove_14 (by decide) ?_
      refine lv_iadd hx hb dX0_remove_15 ?_
      refine lv_istore_n (lv' := [(2, .int (x1 + 1)), (0, .ref q_this), (1, .int x1)]) hx hb dX0_remove_16 rfl hl (by decide) rfl (fun ls hl => ?_)
      refine lv_aload_n hx hb dX0_remove_17 rfl (lv_at hl 1 rfl) ?_
      refine va_get (D := E.1) (ci := 0) (v := .int c_size) (C := RX0) (T := TX0) (N := 6) hx hb hts hin0 hown hK.1 hP 0 rfl rfl 5 (by decide) hk_32 (fun _ h9 => h9) rfl dX0_remove_18 ?_
      refine lv_iload_n hx hb dX0_remove_21 rfl (lv_at hl 0 rfl) ?_
      refine lv_isub hx hb dX0_remove_22 ?_
      refine lv_istore_n (lv' := [(3, .int (c_size - (x1 + 1))), (2, .int (x1 + 1)), (0, .ref q_this), (1, .int x1)]) hx hb dX0_remove_23 rfl hl (by decide) rfl (fun ls hl => ?_)
      refine lv_aload_n hx hb dX0_remove_24 rfl (lv_at hl 2 rfl) ?_
      refine va_get (D := E.1) (ci := 0) (v := .ref q_kinds) (C := RX0) (T := TX0) (N := 6) hx hb hts hin0 hown hK.1 hP 0 rfl rfl 0 (by decide) hk_9 (fun _ h9 => h9) rfl dX0_remove_25 ?_
      refine lv_iload_n hx hb dX0_remove_28 rfl (lv_at hl 1 rfl) ?_
      refine lv_aload_n hx hb dX0_remove_29 rfl (lv_at hl 2 rfl) ?_
      refine va_get (D := E.1) (ci := 0) (v := .ref q_kinds) (C := RX0) (T := TX0) (N := 6) hx hb hts hin0 hown hK.1 hP 0 rfl rfl 0 (by decide) hk_9 (fun _ h9 => h9) rfl dX0_remove_30 ?_
      refine lv_iload_n hx hb dX0_remove_33 rfl (lv_at hl 3 rfl) ?_
      refine lv_iload_n hx hb dX0_remove_34 rfl (lv_at hl 0 rfl) ?_
      obtain ⟨u351, u352, u353, u354, u355, h⟩ := jgc_e h
      refine va_copyi (ty := .int) hx hb (hml.trans hl.1.symm) hown (hts (.methodLink RX0 52 arraycopyName) (by decide +kernel)) (hts (.native arraycopyName) (by decide +kernel)) (hts (.static arraycopyName) (by decide +kernel)) (hts (.initialized "java/lang/System") (by decide +kernel)) hK.1 hP hD hS 1 1 1 1 rfl rfl rfl rfl rfl u351 u352 u353 u354 u355 (fun _ _ => rfl) (Nat.le_of_ble_eq_true rfl) (Nat.le_of_ble_eq_true rfl) dX0_remove_35 (fun H locs hP hD hS => ?_)
      replace hP : va_P E.1 vwCl (jw_Book_remove E q_this q_kinds q_strokeCounts q_strokes q_lengths q_letters c_size (va_cpy a_kinds a_kinds (x1 + 1).toNatClampNeg x1.toNatClampNeg (c_size - (x1 + 1)).toNatClampNeg) a_lengths a_letters a_strokeCounts a_strokes) H := hP
      replace hD : va_D A (jw_Book_remove E q_this q_kinds q_strokeCounts q_strokes q_lengths q_letters c_size (va_cpy a_kinds a_kinds (x1 + 1).toNatClampNeg x1.toNatClampNeg (c_size - (x1 + 1)).toNatClampNeg) a_lengths a_letters a_strokeCounts a_strokes) := hD
      refine lv_aload_n hx hb dX0_remove_38 rfl (lv_at hl 2 rfl) ?_
      refine va_get (D := E.1) (ci := 0) (v := .ref q_strokeCounts) (C := RX0) (T := TX0) (N := 6) hx hb hts hin0 hown hK.1 hP 0 rfl rfl 1 (by decide) hk_15 (fun _ h9 => h9) rfl dX0_remove_39 ?_
      refine lv_iload_n hx hb dX0_remove_42 rfl (lv_at hl 1 rfl) ?_
      refine lv_aload_n hx hb dX0_remove_43 rfl (lv_at hl 2 rfl) ?_
      refine va_get (D := E.1) (ci := 0) (v := .ref q_strokeCounts) (C := RX0) (T := TX0) (N := 6) hx hb hts hin0 hown hK.1 hP 0 rfl rfl 1 (by decide) hk_15 (fun _ h9 => h9) rfl dX0_remove_44 ?_
      refine lv_iload_n hx hb dX0_remove_47 rfl (lv_at hl 3 rfl) ?_
      refine lv_iload_n hx hb dX0_remove_48 rfl (lv_at hl 0 rfl) ?_
      obtain ⟨u491, u492, u493, u494, u495, h⟩ := jgc_e h
      refine va_copyi (ty := .int) hx hb (hml.trans hl.1.symm) hown (hts (.methodLink RX0 52 arraycopyName) (by decide +kernel)) (hts (.native arraycopyName) (by decide +kernel)) (hts (.static arraycopyName) (by decide +kernel)) (hts (.initialized "java/lang/System") (by decide +kernel)) hK.1 hP hD hS 4 4 1 1 rfl rfl rfl rfl rfl u491 u492 u493 u494 u495 (fun _ _ => rfl) (Nat.le_of_ble_eq_true rfl) (Nat.le_of_ble_eq_true rfl) dX0_remove_49 (fun H locs hP hD hS => ?_)
      replace hP : va_P E.1 vwCl (jw_Book_remove E q_this q_kinds q_strokeCounts q_strokes q_lengths q_letters c_size (va_cpy a_kinds a_kinds (x1 + 1).toNatClampNeg x1.toNatClampNeg (c_size - (x1 + 1)).toNatClampNeg) a_lengths a_letters (va_cpy a_strokeCounts a_strokeCounts (x1 + 1).toNatClampNeg x1.toNatClampNeg (c_size - (x1 + 1)).toNatClampNeg) a_strokes) H := hP
      replace hD : va_D A (jw_Book_remove E q_this q_kinds q_strokeCounts q_strokes q_lengths q_letters c_size (va_cpy a_kinds a_kinds (x1 + 1).toNatClampNeg x1.toNatClampNeg (c_size - (x1 + 1)).toNatClampNeg) a_lengths a_letters (va_cpy a_strokeCounts a_strokeCounts (x1 + 1).toNatClampNeg x1.toNatClampNeg (c_size - (x1 + 1)).toNatClampNeg) a_strokes) := hD
      refine lv_aload_n hx hb dX0_remove_52 rfl (lv_at hl 2 rfl) ?_
      refine va_get (D := E.1) (ci := 0) (v := .ref q_lengths) (C := RX0) (T := TX0) (N := 6) hx hb hts hin0 hown hK.1 hP 0 rfl rfl 3 (by decide) hk_21 (fun _ h9 => h9) rfl dX0_remove_53 ?_
      refine lv_iload_n hx hb dX0_remove_56 rfl (lv_at hl 1 rfl) ?_
      refine lv_aload_n hx hb dX0_remove_57 rfl (lv_at hl 2 rfl) ?_
      refine va_get (D := E.1) (ci := 0) (v := .ref q_lengths) (C := RX0) (T := TX0) (N := 6) hx hb hts hin0 hown hK.1 hP 0 rfl rfl 3 (by decide) hk_21 (fun _ h9 => h9) rfl dX0_remove_58 ?_
      refine lv_iload_n hx hb dX0_remove_61 rfl (lv_at hl 3 rfl) ?_
      refine lv_iload_n hx hb dX0_remove_62 rfl (lv_at hl 0 rfl) ?_
      obtain ⟨u631, u632, u633, u634, u635, h⟩ := jgc_e h
      refine va_copyi (ty := .int) hx hb (hml.trans hl.1.symm) hown (hts (.methodLink RX0 52 arraycopyName) (by decide +kernel)) (hts (.native arraycopyName) (by decide +kernel)) (hts (.static arraycopyName) (by decide +kernel)) (hts (.initialized "java/lang/System") (by decide +kernel)) hK.1 hP hD hS 2 2 1 1 rfl rfl rfl rfl rfl u631 u632 u633 u634 u635 (fun _ _ => rfl) (Nat.le_of_ble_eq_true rfl) (Nat.le_of_ble_eq_true rfl) dX0_remove_63 (fun H locs hP hD hS => ?_)
      replace hP : va_P E.1 vwCl (jw_Book_remove E q_this q_kinds q_strokeCounts q_strokes q_lengths q_letters c_size (va_cpy a_kinds a_kinds (x1 + 1).toNatClampNeg x1.toNatClampNeg (c_size - (x1 + 1)).toNatClampNeg) (va_cpy a_lengths a_lengths (x1 + 1).toNatClampNeg x1.toNatClampNeg (c_size - (x1 + 1)).toNatClampNeg) a_letters (va_cpy a_strokeCounts a_strokeCounts (x1 + 1).toNatClampNeg x1.toNatClampNeg (c_size - (x1 + 1)).toNatClampNeg) a_strokes) H := hP
      replace hD : va_D A (jw_Book_remove E q_this q_kinds q_strokeCounts q_strokes q_lengths q_letters c_size (va_cpy a_kinds a_kinds (x1 + 1).toNatClampNeg x1.toNatClampNeg (c_size - (x1 + 1)).toNatClampNeg) (va_cpy a_lengths a_lengths (x1 + 1).toNatClampNeg x1.toNatClampNeg (c_size - (x1 + 1)).toNatClampNeg) a_letters (va_cpy a_strokeCounts a_strokeCounts (x1 + 1).toNatClampNeg x1.toNatClampNeg (c_size - (x1 + 1)).toNatClampNeg) a_strokes) := hD
      refine lv_aload_n hx hb dX0_remove_66 rfl (lv_at hl 2 rfl) ?_
      refine va_get (D := E.1) (ci := 0) (v := .ref q_strokes) (C := RX0) (T := TX0) (N := 6) hx hb hts hin0 hown hK.1 hP 0 rfl rfl 2 (by decide) hk_18 (fun _ h9 => h9) rfl dX0_remove_67 ?_
      refine lv_iload_n hx hb dX0_remove_70 rfl (lv_at hl 1 rfl) ?_
      refine lv_iconst (v := 5) hx hb dX0_remove_71 (by decide) ?_
      refine lv_imul hx hb dX0_remove_72 ?_
      refine lv_aload_n hx hb dX0_remove_73 rfl (lv_at hl 2 rfl) ?_
      refine va_get (D := E.1) (ci := 0) (v := .ref q_strokes) (C := RX0) (T := TX0) (N := 6) hx hb hts hin0 hown hK.1 hP 0 rfl rfl 2 (by decide) hk_18 (fun _ h9 => h9) rfl dX0_remove_74 ?_
      refine lv_iload_n hx hb dX0_remove_77 rfl (lv_at hl 3 rfl) ?_
      refine lv_iconst (v := 5) hx hb dX0_remove_78 (by decide) ?_
      refine lv_imul hx hb dX0_remove_79 ?_
      refine lv_iload_n hx hb dX0_remove_80 rfl (lv_at hl 0 rfl) ?_
      refine lv_iconst (v := 5) hx hb dX0_remove_81 (by decide) ?_
      refine lv_imul hx hb dX0_remove_82 ?_
      obtain ⟨u831, u832, u833, u834, u835, h⟩ := jgc_e h
      refine va_copyi (ty := .int) hx hb (hml.trans hl.1.symm) hown (hts (.methodLink RX0 52 arraycopyName) (by decide +kernel)) (hts (.native arraycopyName) (by decide +kernel)) (hts (.static arraycopyName) (by decide +kernel)) (hts (.initialized "java/lang/System") (by decide +kernel)) hK.1 hP hD hS 5 5 1 1 rfl rfl rfl rfl rfl u831 u832 u833 u834 u835 (fun _ _ => rfl) (Nat.le_of_ble_eq_true rfl) (Nat.le_of_ble_eq_true rfl) dX0_remove_83 (fun H locs hP hD hS => ?_)
      replace hP : va_P E.1 vwCl (jw_Book_remove E q_this q_kinds q_strokeCounts q_strokes q_lengths q_letters c_size (va_cpy a_kinds a_kinds (x1 + 1).toNatClampNeg x1.toNatClampNeg (c_size - (x1 + 1)).toNatClampNeg) (va_cpy a_lengths a_lengths (x1 + 1).toNatClampNeg x1.toNatClampNeg (c_size - (x1 + 1)).toNatClampNeg) a_letters (va_cpy a_strokeCounts a_strokeCounts (x1 + 1).toNatClampNeg x1.toNatClampNeg (c_size - (x1 + 1)).toNatClampNeg) (va_cpy a_strokes a_strokes ((x1 + 1) * 5).toNatClampNeg (x1 * 5).toNatClampNeg ((c_size - (x1 + 1)) * 5).toNatClampNeg)) H := hP
      replace hD : va_D A (jw_Book_remove E q_this q_kinds q_strokeCounts q_strokes q_lengths q_letters c_size (va_cpy a_kinds a_kinds (x1 + 1).toNatClampNeg x1.toNatClampNeg (c_size - (x1 + 1)).toNatClampNeg) (va_cpy a_lengths a_lengths (x1 + 1).toNatClampNeg x1.toNatClampNeg (c_size - (x1 + 1)).toNatClampNeg) a_letters (va_cpy a_strokeCounts a_strokeCounts (x1 + 1).toNatClampNeg x1.toNatClampNeg (c_size - (x1 + 1)).toNatClampNeg) (va_cpy a_strokes a_strokes ((x1 + 1) * 5).toNatClampNeg (x1 * 5).toNatClampNeg ((c_size - (x1 + 1)) * 5).toNatClampNeg)) := hD
      refine lv_aload_n hx hb dX0_remove_86 rfl (lv_at hl 2 rfl) ?_
      refine va_get (D := E.1) (ci := 0) (v := .ref q_letters) (C := RX0) (T := TX0) (N := 6) hx hb hts hin0 hown hK.1 hP 0 rfl rfl 4 (by decide) hk_24 (fun _ h9 => h9) rfl dX0_remove_87 ?_
      refine lv_iload_n hx hb dX0_remove_90 rfl (lv_at hl 1 rfl) ?_
      refine lv_bipush (v := 16) hx hb dX0_remove_91 (by decide) ?_
      refine lv_imul hx hb dX0_remove_93 ?_
      refine lv_aload_n hx hb dX0_remove_94 rfl (lv_at hl 2 rfl) ?_
      refine va_get (D := E.1) (ci := 0) (v := .ref q_letters) (C := RX0) (T := TX0) (N := 6) hx hb hts hin0 hown hK.1 hP 0 rfl rfl 4 (by decide) hk_24 (fun _ h9 => h9) rfl dX0_remove_95 ?_
      refine lv_iload_n hx hb dX0_remove_98 rfl (lv_at hl 3 rfl) ?_
      refine lv_bipush (v := 16) hx hb dX0_remove_99 (by decide) ?_
      refine lv_imul hx hb dX0_remove_101 ?_
      refine lv_iload_n hx hb dX0_remove_102 rfl (lv_at hl 0 rfl) ?_
      refine lv_bipush (v := 16) hx hb dX0_remove_103 (by decide) ?_
      refine lv_imul hx hb dX0_remove_105 ?_
      obtain ⟨u1061, u1062, u1063, u1064, u1065, h⟩ := jgc_e h
      obtain ⟨u1066, h⟩ := jgf_e h
      refine va_copyi (ty := .byte) hx hb (hml.trans hl.1.symm) hown (hts (.methodLink RX0 52 arraycopyName) (by decide +kernel)) (hts (.native arraycopyName) (by decide +kernel)) (hts (.static arraycopyName) (by decide +kernel)) (hts (.initialized "java/lang/System") (by decide +kernel)) hK.1 hP hD hS 3 3 0 0 rfl rfl rfl rfl rfl u1061 u1062 u1063 u1064 u1065 u1066 (Nat.le_of_ble_eq_true rfl) (Nat.le_of_ble_eq_true rfl) dX0_remove_106 (fun H locs hP hD hS => ?_)
      replace hP : va_P E.1 vwCl (jw_Book_remove E q_this q_kinds q_strokeCounts q_strokes q_lengths q_letters c_size (va_cpy a_kinds a_kinds (x1 + 1).toNatClampNeg x1.toNatClampNeg (c_size - (x1 + 1)).toNatClampNeg) (va_cpy a_lengths a_lengths (x1 + 1).toNatClampNeg x1.toNatClampNeg (c_size - (x1 + 1)).toNatClampNeg) (va_cpy a_letters a_letters ((x1 + 1) * 16).toNatClampNeg (x1 * 16).toNatClampNeg ((c_size - (x1 + 1)) * 16).toNatClampNeg) (va_cpy a_strokeCounts a_strokeCounts (x1 + 1).toNatClampNeg x1.toNatClampNeg (c_size - (x1 + 1)).toNatClampNeg) (va_cpy a_strokes a_strokes ((x1 + 1) * 5).toNatClampNeg (x1 * 5).toNatClampNeg ((c_size - (x1 + 1)) * 5).toNatClampNeg)) H := hP
      replace hD : va_D A (jw_Book_remove E q_this q_kinds q_strokeCounts q_strokes q_lengths q_letters c_size (va_cpy a_kinds a_kinds (x1 + 1).toNatClampNeg x1.toNatClampNeg (c_size - (x1 + 1)).toNatClampNeg) (va_cpy a_lengths a_lengths (x1 + 1).toNatClampNeg x1.toNatClampNeg (c_size - (x1 + 1)).toNatClampNeg) (va_cpy a_letters a_letters ((x1 + 1) * 16).toNatClampNeg (x1 * 16).toNatClampNeg ((c_size - (x1 + 1)) * 16).toNatClampNeg) (va_cpy a_strokeCounts a_strokeCounts (x1 + 1).toNatClampNeg x1.toNatClampNeg (c_size - (x1 + 1)).toNatClampNeg) (va_cpy a_strokes a_strokes ((x1 + 1) * 5).toNatClampNeg (x1 * 5).toNatClampNeg ((c_size - (x1 + 1)) * 5).toNatClampNeg)) := hD
      refine lv_aload_n hx hb dX0_remove_109 rfl (lv_at hl 2 rfl) ?_
      refine lv_dup hx hb dX0_remove_110 rfl ?_
      refine va_get (D := E.1) (ci := 0) (v := .int c_size) (C := RX0) (T := TX0) (N := 6) hx hb hts hin0 hown hK.1 hP 0 rfl rfl 5 (by decide) hk_32 (fun _ h9 => h9) rfl dX0_remove_111 ?_
      refine lv_iconst (v := 1) hx hb dX0_remove_114 (by decide) ?_
      refine lv_isub hx hb dX0_remove_115 ?_
      refine va_put (D := E.1) (ci := 0) (v := .int (c_size - 1)) (ty := .int) (C := RX0) (T := TX0) (N := 6) hx hb hts hin0 tyX0 tyX0_ok nmX0 hown hK.1 hP hD hS 0 rfl rfl 5 (by decide) hk_32 (fun _ h9 => h9) rfl (by decide +kernel) rfl rfl (Nat.le_of_ble_eq_true rfl) dX0_remove_116 (fun H locs hP hD hS => ?_)
      replace hP : va_P E.1 vwCl (jw_Book_remove E q_this q_kinds q_strokeCounts q_strokes q_lengths q_letters (c_size - 1) (va_cpy a_kinds a_kinds (x1 + 1).toNatClampNeg x1.toNatClampNeg (c_size - (x1 + 1)).toNatClampNeg) (va_cpy a_lengths a_lengths (x1 + 1).toNatClampNeg x1.toNatClampNeg (c_size - (x1 + 1)).toNatClampNeg) (va_cpy a_letters a_letters ((x1 + 1) * 16).toNatClampNeg (x1 * 16).toNatClampNeg ((c_size - (x1 + 1)) * 16).toNatClampNeg) (va_cpy a_strokeCounts a_strokeCounts (x1 + 1).toNatClampNeg x1.toNatClampNeg (c_size - (x1 + 1)).toNatClampNeg) (va_cpy a_strokes a_strokes ((x1 + 1) * 5).toNatClampNeg (x1 * 5).toNatClampNeg ((c_size - (x1 + 1)) * 5).toNatClampNeg)) H := hP
      replace hD : va_D A (jw_Book_remove E q_this q_kinds q_strokeCounts q_strokes q_lengths q_letters (c_size - 1) (va_cpy a_kinds a_kinds (x1 + 1).toNatClampNeg x1.toNatClampNeg (c_size - (x1 + 1)).toNatClampNeg) (va_cpy a_lengths a_lengths (x1 + 1).toNatClampNeg x1.toNatClampNeg (c_size - (x1 + 1)).toNatClampNeg) (va_cpy a_letters a_letters ((x1 + 1) * 16).toNatClampNeg (x1 * 16).toNatClampNeg ((c_size - (x1 + 1)) * 16).toNatClampNeg) (va_cpy a_strokeCounts a_strokeCounts (x1 + 1).toNatClampNeg x1.toNatClampNeg (c_size - (x1 + 1)).toNatClampNeg) (va_cpy a_strokes a_strokes ((x1 + 1) * 5).toNatClampNeg (x1 * 5).toNatClampNeg ((c_size - (x1 + 1)) * 5).toNatClampNeg)) := hD
      exact j_vret (u := ((c_size - 1), (va_cpy a_kinds a_kinds (x1 + 1).toNatClampNeg x1.toNatClampNeg (c_size - (x1 + 1)).toNatClampNeg), (va_cpy a_lengths a_lengths (x1 + 1).toNatClampNeg x1.toNatClampNeg (c_size - (x1 + 1)).toNatClampNeg), (va_cpy a_letters a_letters ((x1 + 1) * 16).toNatClampNeg (x1 * 16).toNatClampNeg ((c_size - (x1 + 1)) * 16).toNatClampNeg), (va_cpy a_strokeCounts a_strokeCounts (x1 + 1).toNatClampNeg x1.toNatClampNeg (c_size - (x1 + 1)).toNatClampNeg), (va_cpy a_strokes a_strokes ((x1 + 1) * 5).toNatClampNeg (x1 * 5).toNatClampNeg ((c_size - (x1 + 1)) * 5).toNatClampNeg))) (wv := (fun T => (jw_Book_remove E q_this q_kinds q_strokeCounts q_strokes q_lengths q_letters T.1 T.2.1 T.2.2.1 T.2.2.2.1 T.2.2.2.2.1 T.2.2.2.2.2))) h hQ hx hb hr hlocks hS hP hD dX0_remove_119
    · replace h := jif_f hq9 h
      exact j_vret (u := (c_size, a_kinds, a_lengths, a_letters, a_strokeCounts, a_strokes)) (wv := (fun T => (jw_Book_remove E q_this q_kinds q_strokeCounts q_strokes q_lengths q_letters T.1 T.2.1 T.2.2.1 T.2.2.2.1 T.2.2.2.2.1 T.2.2.2.2.2))) h hQ hx hb hr hlocks hS hP hD dX0_remove_12
abbrev jw_Room_drop (E : jE) (q_this q_tape q_entries q_record q_page q_transcript q_planner q_runs q_chord q_outline q_entries_kinds q_entries_strokeCounts q_entries_strokes q_entries_lengths q_entries_letters q_record_keys q_record_firsts q_record_entries q_transcript_chord q_transcript_lasts q_transcript_behinds q_transcript_owners : Nat) (c_entries_size : Int32) (c_record_size : Int32) (c_record_readSoFar : Int32) (c_transcript_size : Int32) (c_transcript_raws : Int32) (c_transcript_settled : Int32) (a_entries_kinds : (Nat → Int32)) (a_entries_lengths : (Nat → Int32)) (a_entries_letters : (Nat → Int32)) (a_entries_strokeCounts : (Nat → Int32)) (a_entries_strokes : (Nat → Int32)) : va_W := [(q_this, .inr (10, [.ref q_tape, .ref q_entries, .ref q_record, .ref q_page, .ref q_transcript, .ref q_planner, .ref q_runs, .ref q_chord, .ref q_outline])), (q_entries, .inr (0, [.ref q_entries_kinds, .ref q_entries_strokeCounts, .ref q_entries_strokes, .ref q_entries_lengths, .ref q_entries_letters, .int c_entries_size])), (q_record, .inr (6, [.ref q_entries, .ref q_record_keys, .ref q_record_firsts, .ref q_record_entries, .int c_record_size, .int c_record_readSoFar])), (q_transcript, .inr (9, [.ref q_entries, .ref q_record, .ref q_page, .ref q_transcript_chord, .ref q_transcript_lasts, .ref q_transcript_behinds, .ref q_transcript_owners, .int c_transcript_size, .int c_transcript_raws, .int c_transcript_settled])), (q_entries_kinds, .inl (E.2.2.1, 60, .inl a_entries_kinds)), (q_entries_lengths, .inl (E.2.2.1, 60, .inl a_entries_lengths)), (q_entries_letters, .inl (E.2.1, 960, .inl a_entries_letters)), (q_entries_strokeCounts, .inl (E.2.2.1, 60, .inl a_entries_strokeCounts)), (q_entries_strokes, .inl (E.2.2.1, 300, .inl a_entries_strokes))]
def jr_Room_drop : Room := { frames := 3, cells := 0, slots := 0, locals := 63 }
set_option maxHeartbeats 4000000 in
set_option maxRecDepth 100000 in
theorem jc_Room_drop (l : Launch) (E : jE) (q_this q_tape q_entries q_record q_page q_transcript q_planner q_runs q_chord q_outline q_entries_kinds q_entries_strokeCounts q_entries_strokes q_entries_lengths q_entries_letters q_record_keys q_record_firsts q_record_entries q_transcript_chord q_transcript_lasts q_transcript_behinds q_transcript_owners : Nat) (c_entries_size : Int32) (c_record_size : Int32) (c_record_readSoFar : Int32) (c_transcript_size : Int32) (c_transcript_raws : Int32) (c_transcript_settled : Int32) (a_entries_kinds : (Nat → Int32)) (a_entries_lengths : (Nat → Int32)) (a_entries_letters : (Nat → Int32)) (a_entries_strokeCounts : (Nat → Int32)) (a_entries_strokes : (Nat → Int32)) (x1 : Int32) (N : Nat) {T : Int32 × Int32 × Int32 × Int32 × (Nat → Int32) × (Nat → Int32) × (Nat → Int32) × (Nat → Int32) × (Nat → Int32)} (h : jf_Room_drop x1 c_entries_size c_record_readSoFar c_transcript_settled a_entries_kinds a_entries_lengths a_entries_letters a_entries_strokeCounts a_entries_strokes = some T) : jMi l yX10_drop wsX10_drop jr_Room_drop E [.ref q_this, .int x1] (jw_Room_drop E q_this q_tape q_entries q_record q_page q_transcript q_planner q_runs q_chord q_outline q_entries_kinds q_entries_strokeCounts q_entries_strokes q_entries_lengths q_entries_letters q_record_keys q_record_firsts q_record_entries q_transcript_chord q_transcript_lasts q_transcript_behinds q_transcript_owners c_entries_size c_record_size c_record_readSoFar c_transcript_size c_transcript_raws c_transcript_settled a_entries_kinds a_entries_lengths a_entries_letters a_entries_strokeCounts a_entries_strokes) (T.1) (jw_Room_drop E q_this q_tape q_entries q_record q_page q_transcript q_planner q_runs q_chord q_outline q_entries_kinds q_entries_strokeCounts q_entries_strokes q_entries_lengths q_entries_letters q_record_keys q_record_firsts q_record_entries q_transcript_chord q_transcript_lasts q_transcript_behinds q_transcript_owners T.2.1 c_record_size T.2.2.1 c_transcript_size c_transcript_raws T.2.2.2.1 T.2.2.2.2.1 T.2.2.2.2.2.1 T.2.2.2.2.2.2.1 T.2.2.2.2.2.2.2.1 T.2.2.2.2.2.2.2.2) := by
  refine jMi.begin (cc := cX10_drop) (maxL := 2) (ret := (some .boolean)) (by decide) rfl (Nat.le_of_ble_eq_true rfl) ?_
  intro p e s m args below meth c A ls Q hQ hx hb hr hml hown hlocks hts hK hA hP hD hS hl
  replace hown : s.vm.findClass RX10 = some m.cls := hown
  replace hl : lv_has ls 2 [(0, .ref q_this), (1, .int x1)] := hl
  have hin10 : ∀ w ∈ u_ws RX10 TX10 9, w ∈ wsX10_drop := by decide +kernel
  have hk_19 := hts (.fieldLink RX10 19 "StenoRoom" "entries" "LStenoRoom$Book;") (by decide +kernel)
  unfold jf_Room_drop at h
  refine lv_aload_n hx hb dX10_drop_0 rfl (lv_at hl 0 rfl) ?_
  refine va_get (D := E.1) (ci := 10) (v := .ref q_entries) (C := RX10) (T := TX10) (N := 9) hx hb hts hin10 hown hK.1 hP 0 rfl rfl 1 (by decide) hk_19 (fun _ h9 => h9) rfl dX10_drop_1 ?_
  refine lv_iload_n hx hb dX10_drop_4 rfl (lv_at hl 1 rfl) ?_
  obtain ⟨r5, hf5, h⟩ := jbd h
  refine j_callVi (own := RX10) (As := [.int x1]) (rest := []) hx hb hml hown hts hK hA hP hD hS (jc_Book_has l E q_entries q_entries_kinds q_entries_strokeCounts q_entries_strokes q_entries_lengths q_entries_letters c_entries_size x1 N hf5) gX10_drop_X0_has rfl ⟨rfl, rfl⟩ 1 (by decide +kernel) rfl rfl 1 0 rfl rfl [1] [0, 2, 3, 4, 5, 6, 7, 8] [0, 8, 1, 2, 3, 4, 5, 6, 7] rfl rfl rfl rfl rfl rfl rfl hl.1 rfl rfl dX10_drop_5 (fun H locs hP hD hS => ?_)
  replace hP : va_P E.1 vwCl (jw_Room_drop E q_this q_tape q_entries q_record q_page q_transcript q_planner q_runs q_chord q_outline q_entries_kinds q_entries_strokeCounts q_entries_strokes q_entries_lengths q_entries_letters q_record_keys q_record_firsts q_record_entries q_transcript_chord q_transcript_lasts q_transcript_behinds q_transcript_owners c_entries_size c_record_size c_record_readSoFar c_transcript_size c_transcript_raws c_transcript_settled a_entries_kinds a_entries_lengths a_entries_letters a_entries_strokeCounts a_entries_strokes) H := hP
  replace hD : va_D A (jw_Room_drop E q_this q_tape q_entries q_record q_page q_transcript q_planner q_runs q_chord q_outline q_entries_kinds q_entries_strokeCounts q_entries_strokes q_entries_lengths q_entries_letters q_record_keys q_record_firsts q_record_entries q_transcript_chord q_transcript_lasts q_transcript_behinds q_transcript_owners c_entries_size c_record_size c_record_readSoFar c_transcript_size c_transcript_raws c_transcript_settled a_entries_kinds a_entries_lengths a_entries_letters a_entries_strokeCounts a_entries_strokes) := hD
  refine lv_if_ne (tgt := 13) hx hb dX10_drop_8 (by decide) (fun hq8 => ?_) (fun hq8 => ?_)
  · replace h := jif_f hq8 h
    refine lv_aload_n hx hb dX10_drop_13 rfl (lv_at hl 0 rfl) ?_
    refine va_get (D := E.1) (ci := 10) (v := .ref q_entries) (C := RX10) (T := TX10) (N := 9) hx hb hts hin10 hown hK.1 hP 0 rfl rfl 1 (by decide) hk_19 (fun _ h9 => h9) rfl dX10_drop_14 ?_
    refine lv_iload_n hx hb dX10_drop_17 rfl (lv_at hl 1 rfl) ?_
    obtain ⟨⟨c_entries_size_18, a_entries_kinds_18, a_entries_lengths_18, a_entries_letters_18, a_entries_strokeCounts_18, a_entries_strokes_18⟩, hf18, h⟩ := jbd h
    refine j_callVv (own := RX10) (As := [.int x1]) (rest := []) hx hb hml hown hts hK hA hP hD hS (jc_Book_remove l E q_entries q_entries_kinds q_entries_strokeCounts q_entries_strokes q_entries_lengths q_entries_letters c_entries_size a_entries_kinds a_entries_lengths a_entries_letters a_entries_strokeCounts a_entries_strokes x1 N hf18) gX10_drop_X0_remove rfl ⟨rfl, rfl⟩ 1 (by decide +kernel) rfl rfl 1 0 rfl rfl [1, 4, 5, 6, 7, 8] [0, 2, 3] [0, 3, 1, 2, 4, 5, 6, 7, 8] rfl rfl rfl rfl rfl rfl rfl hl.1 rfl rfl dX10_drop_18 (fun H locs hP hD hS => ?_)
    replace hP : va_P E.1 vwCl (jw_Room_drop E q_this q_tape q_entries q_record q_page q_transcript q_planner q_runs q_chord q_outline q_entries_kinds q_entries_strokeCounts q_entries_strokes q_entries_lengths q_entries_letters q_record_keys q_record_firsts q_record_entries q_transcript_chord q_transcript_lasts q_transcript_behinds q_transcript_owners c_entries_size_18 c_record_size c_record_readSoFar c_transcript_size c_transcript_raws c_transcript_settled a_entries_kinds_18 a_entries_lengths_18 a_entries_letters_18 a_entries_strokeCounts_18 a_entries_strokes_18) H := hP
    replace hD : va_D A (jw_Room_drop E q_this q_tape q_entries q_record q_page q_transcript q_planner q_runs q_chord q_outline q_entries_kinds q_entries_strokeCounts q_entries_strokes q_entries_lengths q_entries_letters q_record_keys q_record_firsts q_record_entries q_transcript_chord q_transcript_lasts q_transcript_behinds q_transcript_owners c_entries_size_18 c_record_size c_record_readSoFar c_transcript_size c_transcript_raws c_transcript_settled a_entries_kinds_18 a_entries_lengths_18 a_entries_letters_18 a_entries_strokeCounts_18 a_entries_strokes_18) := hD
    refine lv_aload_n hx hb dX10_drop_21 rfl (lv_at hl 0 rfl) ?_
    refine lv_iconst (v := 0) hx hb dX10_drop_22 (by decide) ?_
    obtain ⟨⟨c_record_readSoFar_23, c_transcript_settled_23⟩, hf23, h⟩ := jbd h
    refine j_callVv (own := RX10) (As := [.int 0]) (rest := []) hx hb hml hown hts hK hA hP hD hS (jc_Room_readAnew l E q_this q_tape q_entries q_record q_page q_transcript q_planner q_runs q_chord q_outline q_record_keys q_record_firsts q_record_entries q_transcript_chord q_transcript_lasts q_transcript_behinds q_transcript_owners c_record_size c_record_readSoFar c_transcript_size c_transcript_raws c_transcript_settled 0 N hf23) gX10_drop_X10_readAnew rfl ⟨rfl, rfl⟩ 1 (by decide +kernel) rfl rfl 0 10 rfl rfl [0, 2, 3] [1, 4, 5, 6, 7, 8] [6, 0, 7, 8, 1, 2, 3, 4, 5] rfl rfl rfl rfl rfl rfl rfl hl.1 rfl rfl dX10_drop_23 (fun H locs hP hD hS => ?_)
    replace hP : va_P E.1 vwCl (jw_Room_drop E q_this q_tape q_entries q_record q_page q_transcript q_planner q_runs q_chord q_outline q_entries_kinds q_entries_strokeCounts q_entries_strokes q_entries_lengths q_entries_letters q_record_keys q_record_firsts q_record_entries q_transcript_chord q_transcript_lasts q_transcript_behinds q_transcript_owners c_entries_size_18 c_record_size c_record_readSoFar_23 c_transcript_size c_transcript_raws c_transcript_settled_23 a_entries_kinds_18 a_entries_lengths_18 a_entries_letters_18 a_entries_strokeCounts_18 a_entries_strokes_18) H := hP
    replace hD : va_D A (jw_Room_drop E q_this q_tape q_entries q_record q_page q_transcript q_planner q_runs q_chord q_outline q_entries_kinds q_entries_strokeCounts q_entries_strokes q_entries_lengths q_entries_letters q_record_keys q_record_firsts q_record_entries q_transcript_chord q_transcript_lasts q_transcript_behinds q_transcript_owners c_entries_size_18 c_record_size c_record_readSoFar_23 c_transcript_size c_transcript_raws c_transcript_settled_23 a_entries_kinds_18 a_entries_lengths_18 a_entries_letters_18 a_entries_strokeCounts_18 a_entries_strokes_18) := hD
    refine lv_iconst (v := 1) hx hb dX10_drop_26 (by decide) ?_
    exact j_iret (u := (1, c_entries_size_18, c_record_readSoFar_23, c_transcript_settled_23, a_entries_kinds_18, a_entries_lengths_18, a_entries_letters_18, a_entries_strokeCounts_18, a_entries_strokes_18)) (rv := (fun T => T.1)) (wv := (fun T => (jw_Room_drop E q_this q_tape q_entries q_record q_page q_transcript q_planner q_runs q_chord q_outline q_entries_kinds q_entries_strokeCounts q_entries_strokes q_entries_lengths q_entries_letters q_record_keys q_record_firsts q_record_entries q_transcript_chord q_transcript_lasts q_transcript_behinds q_transcript_owners T.2.1 c_record_size T.2.2.1 c_transcript_size c_transcript_raws T.2.2.2.1 T.2.2.2.2.1 T.2.2.2.2.2.1 T.2.2.2.2.2.2.1 T.2.2.2.2.2.2.2.1 T.2.2.2.2.2.2.2.2))) h hQ hx hb hr jb_1 hlocks hS hP hD dX10_drop_27
  · replace h := jif_t hq8 h
    refine lv_iconst (v := 0) hx hb dX10_drop_11 (by decide) ?_
    exact j_iret (u := (0, c_entries_size, c_record_readSoFar, c_transcript_settled, a_entries_kinds, a_entries_lengths, a_entries_letters, a_entries_strokeCounts, a_entries_strokes)) (rv := (fun T => T.1)) (wv := (fun T => (jw_Room_drop E q_this q_tape q_entries q_record q_page q_transcript q_planner q_runs q_chord q_outline q_entries_kinds q_entries_strokeCounts q_entries_strokes q_entries_lengths q_entries_letters q_record_keys q_record_firsts q_record_entries q_transcript_chord q_transcript_lasts q_transcript_behinds q_transcript_owners T.2.1 c_record_size T.2.2.1 c_transcript_size c_transcript_raws T.2.2.2.1 T.2.2.2.2.1 T.2.2.2.2.2.1 T.2.2.2.2.2.2.1 T.2.2.2.2.2.2.2.1 T.2.2.2.2.2.2.2.2))) h hQ hx hb hr jb_0 hlocks hS hP hD dX10_drop_12
abbrev jw_Reading_isFull (E : jE) (q_this q_book q_keys q_firsts q_entries : Nat) (c_size : Int32) (c_readSoFar : Int32) : va_W := [(q_this, .inr (6, [.ref q_book, .ref q_keys, .ref q_firsts, .ref q_entries, .int c_size, .int c_readSoFar]))]
def jr_Reading_isFull : Room := { frames := 0, cells := 0, slots := 0, locals := 0 }
set_option maxHeartbeats 4000000 in
set_option maxRecDepth 100000 in
theorem jc_Reading_isFull (l : Launch) (E : jE) (q_this q_book q_keys q_firsts q_entries : Nat) (c_size : Int32) (c_readSoFar : Int32) (N : Nat) {T : Int32} (h : jf_Reading_isFull c_size = some T) : jMi l yX6_isFull wsX6_isFull jr_Reading_isFull E [.ref q_this] (jw_Reading_isFull E q_this q_book q_keys q_firsts q_entries c_size c_readSoFar) (T) (jw_Reading_isFull E q_this q_book q_keys q_firsts q_entries c_size c_readSoFar) := by
  refine jMi.begin (cc := cX6_isFull) (maxL := 1) (ret := (some .boolean)) (by decide) rfl (Nat.le_of_ble_eq_true rfl) ?_
  intro p e s m args below meth c A ls Q hQ hx hb hr hml hown hlocks hts hK hA hP hD hS hl
  replace hown : s.vm.findClass RX6 = some m.cls := hown
  replace hl : lv_has ls 1 [(0, .ref q_this)] := hl
  have hin6 : ∀ w ∈ u_ws RX6 TX6 6, w ∈ wsX6_isFull := by decide +kernel
  have hk_25 := hts (.fieldLink RX6 25 "StenoRoom$Reading" "size" "I") (by decide +kernel)
  unfold jf_Reading_isFull at h
  refine lv_aload_n hx hb dX6_isFull_0 rfl (lv_at hl 0 rfl) ?_
  refine va_get (D := E.1) (ci := 6) (v := .int c_size) (C := RX6) (T := TX6) (N := 6) hx hb hts hin6 hown hK.1 hP 0 rfl rfl 4 (by decide) hk_25 (fun _ h9 => h9) rfl dX6_isFull_1 ?_
  refine lv_sipush (v := 300) hx hb dX6_isFull_4 (by decide) ?_
  refine lv_icmp_lt (tgt := 14) hx hb dX6_isFull_7 (by decide) (fun hq7 => ?_) (fun hq7 => ?_)
  · replace h := jif_t hq7 h
    refine lv_iconst (v := 0) hx hb dX6_isFull_14 (by decide) ?_
    exact j_iret (u := 0) (rv := (fun T => T)) (wv := (fun _ => (jw_Reading_isFull E q_this q_book q_keys q_firsts q_entries c_size c_readSoFar))) h hQ hx hb hr jb_0 hlocks hS hP hD dX6_isFull_15
  · replace h := jif_f hq7 h
    refine lv_iconst (v := 1) hx hb dX6_isFull_10 (by decide) ?_
    refine lv_goto (tgt := 15) hx hb dX6_isFull_11 (by decide) ?_
    exact j_iret (u := 1) (rv := (fun T => T)) (wv := (fun _ => (jw_Reading_isFull E q_this q_book q_keys q_firsts q_entries c_size c_readSoFar))) h hQ hx hb hr jb_1 hlocks hS hP hD dX6_isFull_15
abbrev jw_Reading_size (E : jE) (q_this q_book q_keys q_firsts q_entries : Nat) (c_size : Int32) (c_readSoFar : Int32) : va_W := [(q_this, .inr (6, [.ref q_book, .ref q_keys, .ref q_firsts, .ref q_entries, .int c_size, .int c_readSoFar]))]
def jr_Reading_size : Room := { frames := 0, cells := 0, slots := 0, locals := 0 }
set_option maxHeartbeats 4000000 in
set_option maxRecDepth 100000 in
theorem jc_Reading_size (l : Launch) (E : jE) (q_this q_book q_keys q_firsts q_entries : Nat) (c_size : Int32) (c_readSoFar : Int32) (N : Nat) {T : Int32} (h : jf_Reading_size c_size = some T) : jMi l yX6_size wsX6_size jr_Reading_size E [.ref q_this] (jw_Reading_size E q_this q_book q_keys q_firsts q_entries c_size c_readSoFar) (T) (jw_Reading_size E q_this q_book q_keys q_firsts q_entries c_size c_readSoFar) := by
  refine jMi.begin (cc := cX6_size) (maxL := 1) (ret := (some .int)) (by decide) rfl (Nat.le_of_ble_eq_true rfl) ?_
  intro p e s m args below meth c A ls Q hQ hx hb hr hml hown hlocks hts hK hA hP hD hS hl
  replace hown : s.vm.findClass RX6 = some m.cls := hown
  replace hl : lv_has ls 1 [(0, .ref q_this)] := hl
  have hin6 : ∀ w ∈ u_ws RX6 TX6 6, w ∈ wsX6_size := by decide +kernel
  have hk_25 := hts (.fieldLink RX6 25 "StenoRoom$Reading" "size" "I") (by decide +kernel)
  unfold jf_Reading_size at h
  refine lv_aload_n hx hb dX6_size_0 rfl (lv_at hl 0 rfl) ?_
  refine va_get (D := E.1) (ci := 6) (v := .int c_size) (C := RX6) (T := TX6) (N := 6) hx hb hts hin6 hown hK.1 hP 0 rfl rfl 4 (by decide) hk_25 (fun _ h9 => h9) rfl dX6_size_1 ?_
  exact j_iret (u := c_size) (rv := (fun T => T)) (wv := (fun _ => (jw_Reading_size E q_this q_book q_keys q_firsts q_entries c_size c_readSoFar))) h hQ hx hb hr rfl hlocks hS hP hD dX6_size_4
abbrev jw_Reading_put (E : jE) (q_this q_book q_keys q_firsts q_entries : Nat) (c_size : Int32) (c_readSoFar : Int32) (a_keys : (Nat → Int32)) : va_W := [(q_this, .inr (6, [.ref q_book, .ref q_keys, .ref q_firsts, .ref q_entries, .int c_size, .int c_readSoFar])), (q_keys, .inl (E.2.2.1, 300, .inl a_keys))]
def jr_Reading_put : Room := { frames := 1, cells := 0, slots := 0, locals := 40 }
set_option maxHeartbeats 4000000 in
set_option maxRecDepth 100000 in
theorem jc_Reading_put (l : Launch) (E : jE) (q_this q_book q_keys q_firsts q_entries : Nat) (c_size : Int32) (c_readSoFar : Int32) (a_keys : (Nat → Int32)) (x1 : Int32) (x2 : Int32) (N : Nat) {T : Int32 × (Nat → Int32)} (h : jf_Reading_put x1 x2 c_size a_keys = some T) : jMv l yX6_put wsX6_put jr_Reading_put E [.ref q_this, .int x1, .int x2] (jw_Reading_put E q_this q_book q_keys q_firsts q_entries c_size c_readSoFar a_keys) (jw_Reading_put E q_this q_book q_keys q_firsts q_entries T.1 c_readSoFar T.2) := by
  refine jMv.begin (cc := cX6_put) (maxL := 3) (ret := none) (by decide) rfl (Nat.le_of_ble_eq_true rfl) ?_
  intro p e s m args below meth c A ls Q hQ hx hb hr hml hown hlocks hts hK hA hP hD hS hl
  replace hown : s.vm.findClass RX6 = some m.cls := hown
  replace hl : lv_has ls 3 [(0, .ref q_this), (1, .int x1), (2, .int x2)] := hl
  have hin6 : ∀ w ∈ u_ws RX6 TX6 6, w ∈ wsX6_put := by decide +kernel
  have hk_9 := hts (.fieldLink RX6 9 "StenoRoom$Reading" "keys" "[I") (by decide +kernel)
  have hk_25 := hts (.fieldLink RX6 25 "StenoRoom$Reading" "size" "I") (by decide +kernel)
  unfold jf_Reading_put at h
  refine lv_iload_n hx hb dX6_put_0 rfl (lv_at hl 1 rfl) ?_
  refine lv_if_lt (tgt := 22) hx hb dX6_put_1 (by decide) (fun hq1 => ?_) (fun hq1 => ?_)
  · replace h := jif_t hq1 h
    exact j_vret (u := (c_size, a_keys)) (wv := (fun T => (jw_Reading_put E q_this q_book q_keys q_firsts q_entries T.1 c_readSoFar T.2))) h hQ hx hb hr hlocks hS hP hD dX6_put_22
  · replace h := jif_f hq1 h
    refine lv_iload_n hx hb dX6_put_4 rfl (lv_at hl 1 rfl) ?_
    refine lv_aload_n hx hb dX6_put_5 rfl (lv_at hl 0 rfl) ?_
    refine va_get (D := E.1) (ci := 6) (v := .int c_size) (C := RX6) (T := TX6) (N := 6) hx hb hts hin6 hown hK.1 hP 0 rfl rfl 4 (by decide) hk_25 (fun _ h9 => h9) rfl dX6_put_6 ?_
    refine lv_icmp_gt (tgt := 22) hx hb dX6_put_9 (by decide) (fun hq9 => ?_) (fun hq9 => ?_)
    · replace h := jif_t hq9 h
      exact j_vret (u := (c_size, a_keys)) (wv := (fun T => (jw_Reading_put E q_this q_book q_keys q_firsts q_entries T.1 c_readSoFar T.2))) h hQ hx hb hr hlocks hS hP hD dX6_put_22
    · replace h := jif_f hq9 h
      refine lv_aload_n hx hb dX6_put_12 rfl (lv_at hl 0 rfl) ?_
      refine va_get (D := E.1) (ci := 6) (v := .int c_size) (C := RX6) (T := TX6) (N := 6) hx hb hts hin6 hown hK.1 hP 0 rfl rfl 4 (by decide) hk_25 (fun _ h9 => h9) rfl dX6_put_13 ?_
      refine lv_sipush (v := 300) hx hb dX6_put_16 (by decide) ?_
      refine lv_icmp_lt (tgt := 23) hx hb dX6_put_19 (by decide) (fun hq19 => ?_) (fun hq19 => ?_)
      · replace h := jif_t hq19 h
        refine lv_aload_n hx hb dX6_put_23 rfl (lv_at hl 0 rfl) ?_
        refine va_get (D := E.1) (ci := 6) (v := .ref q_keys) (C := RX6) (T := TX6) (N := 6) hx hb hts hin6 hown hK.1 hP 0 rfl rfl 1 (by decide) hk_9 (fun _ h9 => h9) rfl dX6_put_24 ?_
        refine lv_iload_n hx hb dX6_put_27 rfl (lv_at hl 1 rfl) ?_
        refine lv_aload_n hx hb dX6_put_28 rfl (lv_at hl 0 rfl) ?_
        refine va_get (D := E.1) (ci := 6) (v := .ref q_keys) (C := RX6) (T := TX6) (N := 6) hx hb hts hin6 hown hK.1 hP 0 rfl rfl 1 (by decide) hk_9 (fun _ h9 => h9) rfl dX6_put_29 ?_
        refine lv_iload_n hx hb dX6_put_32 rfl (lv_at hl 1 rfl) ?_
        refine lv_iconst (v := 1) hx hb dX6_put_33 (by decide) ?_
        refine lv_iadd hx hb dX6_put_34 ?_
        refine lv_aload_n hx hb dX6_put_35 rfl (lv_at hl 0 rfl) ?_
        refine va_get (D := E.1) (ci := 6) (v := .int c_size) (C := RX6) (T := TX6) (N := 6) hx hb hts hin6 hown hK.1 hP 0 rfl rfl 4 (by decide) hk_25 (fun _ h9 => h9) rfl dX6_put_36 ?_
        refine lv_iload_n hx hb dX6_put_39 rfl (lv_at hl 1 rfl) ?_
        refine lv_isub hx hb dX6_put_40 ?_
        obtain ⟨u411, u412, u413, u414, u415, h⟩ := jgc_e h
        refine va_copyi (ty := .int) hx hb (hml.trans hl.1.symm) hown (hts (.methodLink RX6 32 arraycopyName) (by decide +kernel)) (hts (.native arraycopyName) (by decide +kernel)) (hts (.static arraycopyName) (by decide +kernel)) (hts (.initialized "java/lang/System") (by decide +kernel)) hK.1 hP hD hS 1 1 1 1 rfl rfl rfl rfl rfl u411 u412 u413 u414 u415 (fun _ _ => rfl) (Nat.le_of_ble_eq_true rfl) (Nat.le_of_ble_eq_true rfl) dX6_put_41 (fun H locs hP hD hS => ?_)
        replace hP : va_P E.1 vwCl (jw_Reading_put E q_this q_book q_keys q_firsts q_entries c_size c_readSoFar (va_cpy a_keys a_keys x1.toNatClampNeg (x1 + 1).toNatClampNeg (c_size - x1).toNatClampNeg)) H := hP
        replace hD : va_D A (jw_Reading_put E q_this q_book q_keys q_firsts q_entries c_size c_readSoFar (va_cpy a_keys a_keys x1.toNatClampNeg (x1 + 1).toNatClampNeg (c_size - x1).toNatClampNeg)) := hD
        refine lv_aload_n hx hb dX6_put_44 rfl (lv_at hl 0 rfl) ?_
        refine va_get (D := E.1) (ci := 6) (v := .ref q_keys) (C := RX6) (T := TX6) (N := 6) hx hb hts hin6 hown hK.1 hP 0 rfl rfl 1 (by decide) hk_9 (fun _ h9 => h9) rfl dX6_put_45 ?_
        refine lv_iload_n hx hb dX6_put_48 rfl (lv_at hl 1 rfl) ?_
        refine lv_iload_n hx hb dX6_put_49 rfl (lv_at hl 2 rfl) ?_
        obtain ⟨g50, h⟩ := jga_e h
        refine va_iast hx hb hK.1 hP hD hS 1 1 rfl rfl g50 dX6_put_50 (fun H locs hP hD hS => ?_)
        replace hP : va_P E.1 vwCl (jw_Reading_put E q_this q_book q_keys q_firsts q_entries c_size c_readSoFar (upd (va_cpy a_keys a_keys x1.toNatClampNeg (x1 + 1).toNatClampNeg (c_size - x1).toNatClampNeg) x1.toNatClampNeg x2)) H := hP
        replace hD : va_D A (jw_Reading_put E q_this q_book q_keys q_firsts q_entries c_size c_readSoFar (upd (va_cpy a_keys a_keys x1.toNatClampNeg (x1 + 1).toNatClampNeg (c_size - x1).toNatClampNeg) x1.toNatClampNeg x2)) := hD
        refine lv_aload_n hx hb dX6_put_51 rfl (lv_at hl 0 rfl) ?_
        refine lv_dup hx hb dX6_put_52 rfl ?_
        refine va_get (D := E.1) (ci := 6) (v := .int c_size) (C := RX6) (T := TX6) (N := 6) hx hb hts hin6 hown hK.1 hP 0 rfl rfl 4 (by decide) hk_25 (fun _ h9 => h9) rfl dX6_put_53 ?_
        refine lv_iconst (v := 1) hx hb dX6_put_56 (by decide) ?_
        refine lv_iadd hx hb dX6_put_57 ?_
        refine va_put (D := E.1) (ci := 6) (v := .int (c_size + 1)) (ty := .int) (C := RX6) (T := TX6) (N := 6) hx hb hts hin6 tyX6 tyX6_ok nmX6 hown hK.1 hP hD hS 0 rfl rfl 4 (by decide) hk_25 (fun _ h9 => h9) rfl (by decide +kernel) rfl rfl (Nat.le_of_ble_eq_true rfl) dX6_put_58 (fun H locs hP hD hS => ?_)
        replace hP : va_P E.1 vwCl (jw_Reading_put E q_this q_book q_keys q_firsts q_entries (c_size + 1) c_readSoFar (upd (va_cpy a_keys a_keys x1.toNatClampNeg (x1 + 1).toNatClampNeg (c_size - x1).toNatClampNeg) x1.toNatClampNeg x2)) H := hP
        replace hD : va_D A (jw_Reading_put E q_this q_book q_keys q_firsts q_entries (c_size + 1) c_readSoFar (upd (va_cpy a_keys a_keys x1.toNatClampNeg (x1 + 1).toNatClampNeg (c_size - x1).toNatClampNeg) x1.toNatClampNeg x2)) := hD
        exact j_vret (u := ((c_size + 1), (upd (va_cpy a_keys a_keys x1.toNatClampNeg (x1 + 1).toNatClampNeg (c_size - x1).toNatClampNeg) x1.toNatClampNeg x2))) (wv := (fun T => (jw_Reading_put E q_this q_book q_keys q_firsts q_entries T.1 c_readSoFar T.2))) h hQ hx hb hr hlocks hS hP hD dX6_put_61
      · replace h := jif_f hq19 h
        exact j_vret (u := (c_size, a_keys)) (wv := (fun T => (jw_Reading_put E q_this q_book q_keys q_firsts q_entries T.1 c_readSoFar T.2))) h hQ hx hb hr hlocks hS hP hD dX6_put_22
abbrev jw_Room_stroke (E : jE) (q_this q_tape q_entries q_record q_page q_transcript q_planner q_runs q_chord q_outline q_record_keys q_record_firsts q_record_entries q_transcript_chord q_transcript_lasts q_transcript_behinds q_transcript_owners : Nat) (c_record_size : Int32) (c_record_readSoFar : Int32) (c_transcript_size : Int32) (c_transcript_raws : Int32) (c_transcript_settled : Int32) (a_record_keys : (Nat → Int32)) : va_W := [(q_this, .inr (10, [.ref q_tape, .ref q_entries, .ref q_record, .ref q_page, .ref q_transcript, .ref q_planner, .ref q_runs, .ref q_chord, .ref q_outline])), (q_record, .inr (6, [.ref q_entries, .ref q_record_keys, .ref q_record_firsts, .ref q_record_entries, .int c_record_size, .int c_record_readSoFar])), (q_transcript, .inr (9, [.ref q_entries, .ref q_record, .ref q_page, .ref q_transcript_chord, .ref q_transcript_lasts, .ref q_transcript_behinds, .ref q_transcript_owners, .int c_transcript_size, .int c_transcript_raws, .int c_transcript_settled])), (q_record_keys, .inl (E.2.2.1, 300, .inl a_record_keys))]
def jr_Room_stroke : Room := { frames := 2, cells := 0, slots := 0, locals := 62 }
set_option maxHeartbeats 4000000 in
set_option maxRecDepth 100000 in
theorem jc_Room_stroke (l : Launch) (E : jE) (q_this q_tape q_entries q_record q_page q_transcript q_planner q_runs q_chord q_outline q_record_keys q_record_firsts q_record_entries q_transcript_chord q_transcript_lasts q_transcript_behinds q_transcript_owners : Nat) (c_record_size : Int32) (c_record_readSoFar : Int32) (c_transcript_size : Int32) (c_transcript_raws : Int32) (c_transcript_settled : Int32) (a_record_keys : (Nat → Int32)) (x1 : Int32) (N : Nat) {T : Int32 × Int32 × Int32 × (Nat → Int32)} (h : jf_Room_stroke x1 c_record_size c_transcript_settled a_record_keys = some T) : jMi l yX10_stroke wsX10_stroke jr_Room_stroke E [.ref q_this, .int x1] (jw_Room_stroke E q_this q_tape q_entries q_record q_page q_transcript q_planner q_runs q_chord q_outline q_record_keys q_record_firsts q_record_entries q_transcript_chord q_transcript_lasts q_transcript_behinds q_transcript_owners c_record_size c_record_readSoFar c_transcript_size c_transcript_raws c_transcript_settled a_record_keys) (T.1) (jw_Room_stroke E q_this q_tape q_entries q_record q_page q_transcript q_planner q_runs q_chord q_outline q_record_keys q_record_firsts q_record_entries q_transcript_chord q_transcript_lasts q_transcript_behinds q_transcript_owners T.2.1 c_record_readSoFar c_transcript_size c_transcript_raws T.2.2.1 T.2.2.2) := by
  refine jMi.begin (cc := cX10_stroke) (maxL := 2) (ret := (some .int)) (by decide) rfl (Nat.le_of_ble_eq_true rfl) ?_
  intro p e s m args below meth c A ls Q hQ hx hb hr hml hown hlocks hts hK hA hP hD hS hl
  replace hown : s.vm.findClass RX10 = some m.cls := hown
  replace hl : lv_has ls 2 [(0, .ref q_this), (1, .int x1)] := hl
  have hin10 : ∀ w ∈ u_ws RX10 TX10 9, w ∈ wsX10_stroke := by decide +kernel
  have hk_28 := hts (.fieldLink RX10 28 "StenoRoom" "record" "LStenoRoom$Reading;") (by decide +kernel)
  have hk_46 := hts (.fieldLink RX10 46 "StenoRoom" "transcript" "LStenoRoom$Transcript;") (by decide +kernel)
  unfold jf_Room_stroke at h
  refine lv_iload_n hx hb dX10_stroke_0 rfl (lv_at hl 1 rfl) ?_
  obtain ⟨r1, hf1, h⟩ := jbd h
  refine j_callSi (own := RX10) (As := [.int x1]) (rest := []) hx hb hml hown hts hK hA hP hD hS (jc_Room_isStroke l E x1 N hf1) gX10_stroke_X10_isStroke rfl ⟨rfl, rfl⟩ 1 (by decide +kernel) rfl rfl [] [0, 1, 2, 3] [0, 1, 2, 3] rfl rfl rfl rfl rfl rfl rfl hl.1 rfl rfl dX10_stroke_1 (fun H locs hP hD hS => ?_)
  replace hP : va_P E.1 vwCl (jw_Room_stroke E q_this q_tape q_entries q_record q_page q_transcript q_planner q_runs q_chord q_outline q_record_keys q_record_firsts q_record_entries q_transcript_chord q_transcript_lasts q_transcript_behinds q_transcript_owners c_record_size c_record_readSoFar c_transcript_size c_transcript_raws c_transcript_settled a_record_keys) H := hP
  replace hD : va_D A (jw_Room_stroke E q_this q_tape q_entries q_record q_page q_transcript q_planner q_runs q_chord q_outline q_record_keys q_record_firsts q_record_entries q_transcript_chord q_transcript_lasts q_transcript_behinds q_transcript_owners c_record_size c_record_readSoFar c_transcript_size c_transcript_raws c_transcript_settled a_record_keys) := hD
  refine lv_if_eq (tgt := 17) hx hb dX10_stroke_4 (by decide) (fun hq4 => ?_) (fun hq4 => ?_)
  · replace h := jif_t hq4 h
    refine lv_iconst (v := (-1)) hx hb dX10_stroke_17 (by decide) ?_
    exact j_iret (u := ((-1), c_record_size, c_transcript_settled, a_record_keys)) (rv := (fun T => T.1)) (wv := (fun T => (jw_Room_stroke E q_this q_tape q_entries q_record q_page q_transcript q_planner q_runs q_chord q_outline q_record_keys q_record_firsts q_record_entries q_transcript_chord q_transcript_lasts q_transcript_behinds q_transcript_owners T.2.1 c_record_readSoFar c_transcript_size c_transcript_raws T.2.2.1 T.2.2.2))) h hQ hx hb hr rfl hlocks hS hP hD dX10_stroke_18
  · replace h := jif_f hq4 h
    refine lv_aload_n hx hb dX10_stroke_7 rfl (lv_at hl 0 rfl) ?_
    refine va_get (D := E.1) (ci := 10) (v := .ref q_record) (C := RX10) (T := TX10) (N := 9) hx hb hts hin10 hown hK.1 hP 0 rfl rfl 2 (by decide) hk_28 (fun _ h9 => h9) rfl dX10_stroke_8 ?_
    obtain ⟨r11, hf11, h⟩ := jbd h
    refine j_callVi (own := RX10) (As := []) (rest := []) hx hb hml hown hts hK hA hP hD hS (jc_Reading_isFull l E q_record q_entries q_record_keys q_record_firsts q_record_entries c_record_size c_record_readSoFar N hf11) gX10_stroke_X6_isFull rfl ⟨rfl, rfl⟩ 0 (by decide +kernel) rfl rfl 1 6 rfl rfl [1] [0, 2, 3] [0, 3, 1, 2] rfl rfl rfl rfl rfl rfl rfl hl.1 rfl rfl dX10_stroke_11 (fun H locs hP hD hS => ?_)
    replace hP : va_P E.1 vwCl (jw_Room_stroke E q_this q_tape q_entries q_record q_page q_transcript q_planner q_runs q_chord q_outline q_record_keys q_record_firsts q_record_entries q_transcript_chord q_transcript_lasts q_transcript_behinds q_transcript_owners c_record_size c_record_readSoFar c_transcript_size c_transcript_raws c_transcript_settled a_record_keys) H := hP
    replace hD : va_D A (jw_Room_stroke E q_this q_tape q_entries q_record q_page q_transcript q_planner q_runs q_chord q_outline q_record_keys q_record_firsts q_record_entries q_transcript_chord q_transcript_lasts q_transcript_behinds q_transcript_owners c_record_size c_record_readSoFar c_transcript_size c_transcript_raws c_transcript_settled a_record_keys) := hD
    refine lv_if_eq (tgt := 19) hx hb dX10_stroke_14 (by decide) (fun hq14 => ?_) (fun hq14 => ?_)
    · replace h := jif_t hq14 h
      refine lv_aload_n hx hb dX10_stroke_19 rfl (lv_at hl 0 rfl) ?_
      refine va_get (D := E.1) (ci := 10) (v := .ref q_record) (C := RX10) (T := TX10) (N := 9) hx hb hts hin10 hown hK.1 hP 0 rfl rfl 2 (by decide) hk_28 (fun _ h9 => h9) rfl dX10_stroke_20 ?_
      refine lv_aload_n hx hb dX10_stroke_23 rfl (lv_at hl 0 rfl) ?_
      refine va_get (D := E.1) (ci := 10) (v := .ref q_record) (C := RX10) (T := TX10) (N := 9) hx hb hts hin10 hown hK.1 hP 0 rfl rfl 2 (by decide) hk_28 (fun _ h9 => h9) rfl dX10_stroke_24 ?_
      obtain ⟨r27, hf27, h⟩ := jbd h
      refine j_callVi (own := RX10) (As := []) (rest := [.ref q_record]) hx hb hml hown hts hK hA hP hD hS (jc_Reading_size l E q_record q_entries q_record_keys q_record_firsts q_record_entries c_record_size c_record_readSoFar N hf27) gX10_stroke_X6_size rfl ⟨rfl, rfl⟩ 0 (by decide +kernel) rfl rfl 1 6 rfl rfl [1] [0, 2, 3] [0, 3, 1, 2] rfl rfl rfl rfl rfl rfl rfl hl.1 rfl rfl dX10_stroke_27 (fun H locs hP hD hS => ?_)
      replace hP : va_P E.1 vwCl (jw_Room_stroke E q_this q_tape q_entries q_record q_page q_transcript q_planner q_runs q_chord q_outline q_record_keys q_record_firsts q_record_entries q_transcript_chord q_transcript_lasts q_transcript_behinds q_transcript_owners c_record_size c_record_readSoFar c_transcript_size c_transcript_raws c_transcript_settled a_record_keys) H := hP
      replace hD : va_D A (jw_Room_stroke E q_this q_tape q_entries q_record q_page q_transcript q_planner q_runs q_chord q_outline q_record_keys q_record_firsts q_record_entries q_transcript_chord q_transcript_lasts q_transcript_behinds q_transcript_owners c_record_size c_record_readSoFar c_transcript_size c_transcript_raws c_transcript_settled a_record_keys) := hD
      refine lv_iload_n hx hb dX10_stroke_30 rfl (lv_at hl 1 rfl) ?_
      obtain ⟨⟨c_record_size_31, a_record_keys_31⟩, hf31, h⟩ := jbd h
      refine j_callVv (own := RX10) (As := [.int r27, .int x1]) (rest := []) hx hb hml hown hts hK hA hP hD hS (jc_Reading_put l E q_record q_entries q_record_keys q_record_firsts q_record_entries c_record_size c_record_readSoFar a_record_keys r27 x1 N hf31) gX10_stroke_X6_put rfl ⟨rfl, rfl⟩ 2 (by decide +kernel) rfl rfl 1 6 rfl rfl [1, 3] [0, 2] [0, 2, 1, 3] rfl rfl rfl rfl rfl rfl rfl hl.1 rfl rfl dX10_stroke_31 (fun H locs hP hD hS => ?_)
      replace hP : va_P E.1 vwCl (jw_Room_stroke E q_this q_tape q_entries q_record q_page q_transcript q_planner q_runs q_chord q_outline q_record_keys q_record_firsts q_record_entries q_transcript_chord q_transcript_lasts q_transcript_behinds q_transcript_owners c_record_size_31 c_record_readSoFar c_transcript_size c_transcript_raws c_transcript_settled a_record_keys_31) H := hP
      replace hD : va_D A (jw_Room_stroke E q_this q_tape q_entries q_record q_page q_transcript q_planner q_runs q_chord q_outline q_record_keys q_record_firsts q_record_entries q_transcript_chord q_transcript_lasts q_transcript_behinds q_transcript_owners c_record_size_31 c_record_readSoFar c_transcript_size c_transcript_raws c_transcript_settled a_record_keys_31) := hD
      refine lv_aload_n hx hb dX10_stroke_34 rfl (lv_at hl 0 rfl) ?_
      refine va_get (D := E.1) (ci := 10) (v := .ref q_transcript) (C := RX10) (T := TX10) (N := 9) hx hb hts hin10 hown hK.1 hP 0 rfl rfl 4 (by decide) hk_46 (fun _ h9 => h9) rfl dX10_stroke_35 ?_
      obtain ⟨c_transcript_settled_38, hf38, h⟩ := jbd h
      refine j_callVv (own := RX10) (As := []) (rest := []) hx hb hml hown hts hK hA hP hD hS (jc_Transcript_forget l E q_transcript q_entries q_record q_page q_transcript_chord q_transcript_lasts q_transcript_behinds q_transcript_owners c_transcript_size c_transcript_raws c_transcript_settled N hf38) gX10_stroke_X9_forget rfl ⟨rfl, rfl⟩ 0 (by decide +kernel) rfl rfl 2 9 rfl rfl [2] [0, 1, 3] [0, 1, 3, 2] rfl rfl rfl rfl rfl rfl rfl hl.1 rfl rfl dX10_stroke_38 (fun H locs hP hD hS => ?_)
      replace hP : va_P E.1 vwCl (jw_Room_stroke E q_this q_tape q_entries q_record q_page q_transcript q_planner q_runs q_chord q_outline q_record_keys q_record_firsts q_record_entries q_transcript_chord q_transcript_lasts q_transcript_behinds q_transcript_owners c_record_size_31 c_record_readSoFar c_transcript_size c_transcript_raws c_transcript_settled_38 a_record_keys_31) H := hP
      replace hD : va_D A (jw_Room_stroke E q_this q_tape q_entries q_record q_page q_transcript q_planner q_runs q_chord q_outline q_record_keys q_record_firsts q_record_entries q_transcript_chord q_transcript_lasts q_transcript_behinds q_transcript_owners c_record_size_31 c_record_readSoFar c_transcript_size c_transcript_raws c_transcript_settled_38 a_record_keys_31) := hD
      refine lv_aload_n hx hb dX10_stroke_41 rfl (lv_at hl 0 rfl) ?_
      refine va_get (D := E.1) (ci := 10) (v := .ref q_record) (C := RX10) (T := TX10) (N := 9) hx hb hts hin10 hown hK.1 hP 0 rfl rfl 2 (by decide) hk_28 (fun _ h9 => h9) rfl dX10_stroke_42 ?_
      obtain ⟨r45, hf45, h⟩ := jbd h
      refine j_callVi (own := RX10) (As := []) (rest := []) hx hb hml hown hts hK hA hP hD hS (jc_Reading_size l E q_record q_entries q_record_keys q_record_firsts q_record_entries c_record_size_31 c_record_readSoFar N hf45) gX10_stroke_X6_size rfl ⟨rfl, rfl⟩ 0 (by decide +kernel) rfl rfl 1 6 rfl rfl [1] [0, 2, 3] [0, 3, 1, 2] rfl rfl rfl rfl rfl rfl rfl hl.1 rfl rfl dX10_stroke_45 (fun H locs hP hD hS => ?_)
      replace hP : va_P E.1 vwCl (jw_Room_stroke E q_this q_tape q_entries q_record q_page q_transcript q_planner q_runs q_chord q_outline q_record_keys q_record_firsts q_record_entries q_transcript_chord q_transcript_lasts q_transcript_behinds q_transcript_owners c_record_size_31 c_record_readSoFar c_transcript_size c_transcript_raws c_transcript_settled_38 a_record_keys_31) H := hP
      replace hD : va_D A (jw_Room_stroke E q_this q_tape q_entries q_record q_page q_transcript q_planner q_runs q_chord q_outline q_record_keys q_record_firsts q_record_entries q_transcript_chord q_transcript_lasts q_transcript_behinds q_transcript_owners c_record_size_31 c_record_readSoFar c_transcript_size c_transcript_raws c_transcript_settled_38 a_record_keys_31) := hD
      exact j_iret (u := (r45, c_record_size_31, c_transcript_settled_38, a_record_keys_31)) (rv := (fun T => T.1)) (wv := (fun T => (jw_Room_stroke E q_this q_tape q_entries q_record q_page q_transcript q_planner q_runs q_chord q_outline q_record_keys q_record_firsts q_record_entries q_transcript_chord q_transcript_lasts q_transcript_behinds q_transcript_owners T.2.1 c_record_readSoFar c_transcript_size c_transcript_raws T.2.2.1 T.2.2.2))) h hQ hx hb hr rfl hlocks hS hP hD dX10_stroke_48
    · replace h := jif_f hq14 h
      refine lv_iconst (v := (-1)) hx hb dX10_stroke_17 (by decide) ?_
      exact j_iret (u := ((-1), c_record_size, c_transcript_settled, a_record_keys)) (rv := (fun T => T.1)) (wv := (fun T => (jw_Room_stroke E q_this q_tape q_entries q_record q_page q_transcript q_planner q_runs q_chord q_outline q_record_keys q_record_firsts q_record_entries q_transcript_chord q_transcript_lasts q_transcript_behinds q_transcript_owners T.2.1 c_record_readSoFar c_transcript_size c_transcript_raws T.2.2.1 T.2.2.2))) h hQ hx hb hr rfl hlocks hS hP hD dX10_stroke_18
abbrev jw_Reading_has (E : jE) (q_this q_book q_keys q_firsts q_entries : Nat) (c_size : Int32) (c_readSoFar : Int32) : va_W := [(q_this, .inr (6, [.ref q_book, .ref q_keys, .ref q_firsts, .ref q_entries, .int c_size, .int c_readSoFar]))]
def jr_Reading_has : Room := { frames := 0, cells := 0, slots := 0, locals := 0 }
set_option maxHeartbeats 4000000 in
set_option maxRecDepth 100000 in
theorem jc_Reading_has (l : Launch) (E : jE) (q_this q_book q_keys q_firsts q_entries : Nat) (c_size : Int32) (c_readSoFar : Int32) (x1 : Int32) (N : Nat) {T : Int32} (h : jf_Reading_has x1 c_size = some T) : jMi l yX6_has wsX6_has jr_Reading_has E [.ref q_this, .int x1] (jw_Reading_has E q_this q_book q_keys q_firsts q_entries c_size c_readSoFar) (T) (jw_Reading_has E q_this q_book q_keys q_firsts q_entries c_size c_readSoFar) := by
  refine jMi.begin (cc := cX6_has) (maxL := 2) (ret := (some .boolean)) (by decide) rfl (Nat.le_of_ble_eq_true rfl) ?_
  intro p e s m args below meth c A ls Q hQ hx hb hr hml hown hlocks hts hK hA hP hD hS hl
  replace hown : s.vm.findClass RX6 = some m.cls := hown
  replace hl : lv_has ls 2 [(0, .ref q_this), (1, .int x1)] := hl
  have hin6 : ∀ w ∈ u_ws RX6 TX6 6, w ∈ wsX6_has := by decide +kernel
  have hk_25 := hts (.fieldLink RX6 25 "StenoRoom$Reading" "size" "I") (by decide +kernel)
  unfold jf_Reading_has at h
  refine lv_iload_n hx hb dX6_has_0 rfl (lv_at hl 1 rfl) ?_
  refine lv_if_lt (tgt := 16) hx hb dX6_has_1 (by decide) (fun hq1 => ?_) (fun hq1 => ?_)
  · replace h := jif_t hq1 h
    refine lv_iconst (v := 0) hx hb dX6_has_16 (by decide) ?_
    exact j_iret (u := 0) (rv := (fun T => T)) (wv := (fun _ => (jw_Reading_has E q_this q_book q_keys q_firsts q_entries c_size c_readSoFar))) h hQ hx hb hr jb_0 hlocks hS hP hD dX6_has_17
  · replace h := jif_f hq1 h
    refine lv_iload_n hx hb dX6_has_4 rfl (lv_at hl 1 rfl) ?_
    refine lv_aload_n hx hb dX6_has_5 rfl (lv_at hl 0 rfl) ?_
    refine va_get (D := E.1) (ci := 6) (v := .int c_size) (C := RX6) (T := TX6) (N := 6) hx hb hts hin6 hown hK.1 hP 0 rfl rfl 4 (by decide) hk_25 (fun _ h9 => h9) rfl dX6_has_6 ?_
    refine lv_icmp_ge (tgt := 16) hx hb dX6_has_9 (by decide) (fun hq9 => ?_) (fun hq9 => ?_)
    · replace h := jif_t hq9 h
      refine lv_iconst (v := 0) hx hb dX6_has_16 (by decide) ?_
      exact j_iret (u := 0) (rv := (fun T => T)) (wv := (fun _ => (jw_Reading_has E q_this q_book q_keys q_firsts q_entries c_size c_readSoFar))) h hQ hx hb hr jb_0 hlocks hS hP hD dX6_has_17
    · replace h := jif_f hq9 h
      refine lv_iconst (v := 1) hx hb dX6_has_12 (by decide) ?_
      refine lv_goto (tgt := 17) hx hb dX6_has_13 (by decide) ?_
      exact j_iret (u := 1) (rv := (fun T => T)) (wv := (fun _ => (jw_Reading_has E q_this q_book q_keys q_firsts q_entries c_size c_readSoFar))) h hQ hx hb hr jb_1 hlocks hS hP hD dX6_has_17
abbrev jw_Reading_keysAt (E : jE) (q_this q_book q_keys q_firsts q_entries : Nat) (c_size : Int32) (c_readSoFar : Int32) (a_keys : (Nat → Int32)) : va_W := [(q_this, .inr (6, [.ref q_book, .ref q_keys, .ref q_firsts, .ref q_entries, .int c_size, .int c_readSoFar])), (q_keys, .inl (E.2.2.1, 300, .inl a_keys))]
def jr_Reading_keysAt : Room := { frames := 0, cells := 0, slots := 0, locals := 0 }
set_option maxHeartbeats 4000000 in
set_option maxRecDepth 100000 in
theorem jc_Reading_keysAt (l : Launch) (E : jE) (q_this q_book q_keys q_firsts q_entries : Nat) (c_size : Int32) (c_readSoFar : Int32) (a_keys : (Nat → Int32)) (x1 : Int32) (N : Nat) {T : Int32} (h : jf_Reading_keysAt x1 c_size a_keys = some T) : jMi l yX6_keysAt wsX6_keysAt jr_Reading_keysAt E [.ref q_this, .int x1] (jw_Reading_keysAt E q_this q_book q_keys q_firsts q_entries c_size c_readSoFar a_keys) (T) (jw_Reading_keysAt E q_this q_book q_keys q_firsts q_entries c_size c_readSoFar a_keys) := by
  refine jMi.begin (cc := cX6_keysAt) (maxL := 2) (ret := (some .int)) (by decide) rfl (Nat.le_of_ble_eq_true rfl) ?_
  intro p e s m args below meth c A ls Q hQ hx hb hr hml hown hlocks hts hK hA hP hD hS hl
  replace hown : s.vm.findClass RX6 = some m.cls := hown
  replace hl : lv_has ls 2 [(0, .ref q_this), (1, .int x1)] := hl
  have hin6 : ∀ w ∈ u_ws RX6 TX6 6, w ∈ wsX6_keysAt := by decide +kernel
  have hk_9 := hts (.fieldLink RX6 9 "StenoRoom$Reading" "keys" "[I") (by decide +kernel)
  have hk_25 := hts (.fieldLink RX6 25 "StenoRoom$Reading" "size" "I") (by decide +kernel)
  unfold jf_Reading_keysAt at h
  refine lv_iload_n hx hb dX6_keysAt_0 rfl (lv_at hl 1 rfl) ?_
  refine lv_if_lt (tgt := 21) hx hb dX6_keysAt_1 (by decide) (fun hq1 => ?_) (fun hq1 => ?_)
  · replace h := jif_t hq1 h
    refine lv_iconst (v := (-1)) hx hb dX6_keysAt_21 (by decide) ?_
    exact j_iret (u := (-1)) (rv := (fun T => T)) (wv := (fun _ => (jw_Reading_keysAt E q_this q_book q_keys q_firsts q_entries c_size c_readSoFar a_keys))) h hQ hx hb hr rfl hlocks hS hP hD dX6_keysAt_22
  · replace h := jif_f hq1 h
    refine lv_iload_n hx hb dX6_keysAt_4 rfl (lv_at hl 1 rfl) ?_
    refine lv_aload_n hx hb dX6_keysAt_5 rfl (lv_at hl 0 rfl) ?_
    refine va_get (D := E.1) (ci := 6) (v := .int c_size) (C := RX6) (T := TX6) (N := 6) hx hb hts hin6 hown hK.1 hP 0 rfl rfl 4 (by decide) hk_25 (fun _ h9 => h9) rfl dX6_keysAt_6 ?_
    refine lv_icmp_ge (tgt := 21) hx hb dX6_keysAt_9 (by decide) (fun hq9 => ?_) (fun hq9 => ?_)
    · replace h := jif_t hq9 h
      refine lv_iconst (v := (-1)) hx hb dX6_keysAt_21 (by decide) ?_
      exact j_iret (u := (-1)) (rv := (fun T => T)) (wv := (fun _ => (jw_Reading_keysAt E q_this q_book q_keys q_firsts q_entries c_size c_readSoFar a_keys))) h hQ hx hb hr rfl hlocks hS hP hD dX6_keysAt_22
    · replace h := jif_f hq9 h
      refine lv_aload_n hx hb dX6_keysAt_12 rfl (lv_at hl 0 rfl) ?_
      refine va_get (D := E.1) (ci := 6) (v := .ref q_keys) (C := RX6) (T := TX6) (N := 6) hx hb hts hin6 hown hK.1 hP 0 rfl rfl 1 (by decide) hk_9 (fun _ h9 => h9) rfl dX6_keysAt_13 ?_
      refine lv_iload_n hx hb dX6_keysAt_16 rfl (lv_at hl 1 rfl) ?_
      obtain ⟨g17, h⟩ := jga_e h
      refine va_iald hx hb hK.1 hP 1 1 rfl rfl g17 dX6_keysAt_17 ?_
      refine lv_goto (tgt := 22) hx hb dX6_keysAt_18 (by decide) ?_
      exact j_iret (u := (a_keys x1.toNatClampNeg)) (rv := (fun T => T)) (wv := (fun _ => (jw_Reading_keysAt E q_this q_book q_keys q_firsts q_entries c_size c_readSoFar a_keys))) h hQ hx hb hr rfl hlocks hS hP hD dX6_keysAt_22
abbrev jw_Reading_remove (E : jE) (q_this q_book q_keys q_firsts q_entries : Nat) (c_size : Int32) (c_readSoFar : Int32) (a_keys : (Nat → Int32)) : va_W := [(q_this, .inr (6, [.ref q_book, .ref q_keys, .ref q_firsts, .ref q_entries, .int c_size, .int c_readSoFar])), (q_keys, .inl (E.2.2.1, 300, .inl a_keys))]
def jr_Reading_remove : Room := { frames := 1, cells := 0, slots := 0, locals := 40 }
set_option maxHeartbeats 4000000 in
set_option maxRecDepth 100000 in
theorem jc_Reading_remove (l : Launch) (E : jE) (q_this q_book q_keys q_firsts q_entries : Nat) (c_size : Int32) (c_readSoFar : Int32) (a_keys : (Nat → Int32)) (x1 : Int32) (N : Nat) {T : Int32 × (Nat → Int32)} (h : jf_Reading_remove x1 c_size a_keys = some T) : jMv l yX6_remove wsX6_remove jr_Reading_remove E [.ref q_this, .int x1] (jw_Reading_remove E q_this q_book q_keys q_firsts q_entries c_size c_readSoFar a_keys) (jw_Reading_remove E q_this q_book q_keys q_firsts q_entries T.1 c_readSoFar T.2) := by
  refine jMv.begin (cc := cX6_remove) (maxL := 2) (ret := none) (by decide) rfl (Nat.le_of_ble_eq_true rfl) ?_
  intro p e s m args below meth c A ls Q hQ hx hb hr hml hown hlocks hts hK hA hP hD hS hl
  replace hown : s.vm.findClass RX6 = some m.cls := hown
  replace hl : lv_has ls 2 [(0, .ref q_this), (1, .int x1)] := hl
  have hin6 : ∀ w ∈ u_ws RX6 TX6 6, w ∈ wsX6_remove := by decide +kernel
  have hk_9 := hts (.fieldLink RX6 9 "StenoRoom$Reading" "keys" "[I") (by decide +kernel)
  have hk_25 := hts (.fieldLink RX6 25 "StenoRoom$Reading" "size" "I") (by decide +kernel)
  unfold jf_Reading_remove at h
  refine lv_iload_n hx hb dX6_remove_0 rfl (lv_at hl 1 rfl) ?_
  refine lv_if_lt (tgt := 12) hx hb dX6_remove_1 (by decide) (fun hq1 => ?_) (fun hq1 => ?_)
  · replace h := jif_t hq1 h
    exact j_vret (u := (c_size, a_keys)) (wv := (fun T => (jw_Reading_remove E q_this q_book q_keys q_firsts q_entries T.1 c_readSoFar T.2))) h hQ hx hb hr hlocks hS hP hD dX6_remove_12
  · replace h := jif_f hq1 h
    refine lv_iload_n hx hb dX6_remove_4 rfl (lv_at hl 1 rfl) ?_
    refine lv_aload_n hx hb dX6_remove_5 rfl (lv_at hl 0 rfl) ?_
    refine va_get (D := E.1) (ci := 6) (v := .int c_size) (C := RX6) (T := TX6) (N := 6) hx hb hts hin6 hown hK.1 hP 0 rfl rfl 4 (by decide) hk_25 (fun _ h9 => h9) rfl dX6_remove_6 ?_
    refine lv_icmp_lt (tgt := 13) hx hb dX6_remove_9 (by decide) (fun hq9 => ?_) (fun hq9 => ?_)
    · replace h := jif_t hq9 h
      refine lv_aload_n hx hb dX6_remove_13 rfl (lv_at hl 0 rfl) ?_
      refine va_get (D := E.1) (ci := 6) (v := .ref q_keys) (C := RX6) (T := TX6) (N := 6) hx hb hts hin6 hown hK.1 hP 0 rfl rfl 1 (by decide) hk_9 (fun _ h9 => h9) rfl dX6_remove_14 ?_
      refine lv_iload_n hx hb dX6_remove_17 rfl (lv_at hl 1 rfl) ?_
      refine lv_iconst (v := 1) hx hb dX6_remove_18 (by decide) ?_
      refine lv_iadd hx hb dX6_remove_19 ?_
      refine lv_aload_n hx hb dX6_remove_20 rfl (lv_at hl 0 rfl) ?_
      refine va_get (D := E.1) (ci := 6) (v := .ref q_keys) (C := RX6) (T := TX6) (N := 6) hx hb hts hin6 hown hK.1 hP 0 rfl rfl 1 (by decide) hk_9 (fun _ h9 => h9) rfl dX6_remove_21 ?_
      refine lv_iload_n hx hb dX6_remove_24 rfl (lv_at hl 1 rfl) ?_
      refine lv_aload_n hx hb dX6_remove_25 rfl (lv_at hl 0 rfl) ?_
      refine va_get (D := E.1) (ci := 6) (v := .int c_size) (C := RX6) (T := TX6) (N := 6) hx hb hts hin6 hown hK.1 hP 0 rfl rfl 4 (by decide) hk_25 (fun _ h9 => h9) rfl dX6_remove_26 ?_
      refine lv_iload_n hx hb dX6_remove_29 rfl (lv_at hl 1 rfl) ?_
      refine lv_isub hx hb dX6_remove_30 ?_
      refine lv_iconst (v := 1) hx hb dX6_remove_31 (by decide) ?_
      refine lv_isub hx hb dX6_remove_32 ?_
      obtain ⟨u331, u332, u333, u334, u335, h⟩ := jgc_e h
      refine va_copyi (ty := .int) hx hb (hml.trans hl.1.symm) hown (hts (.methodLink RX6 32 arraycopyName) (by decide +kernel)) (hts (.native arraycopyName) (by decide +kernel)) (hts (.static arraycopyName) (by decide +kernel)) (hts (.initialized "java/lang/System") (by decide +kernel)) hK.1 hP hD hS 1 1 1 1 rfl rfl rfl rfl rfl u331 u332 u333 u334 u335 (fun _ _ => rfl) (Nat.le_of_ble_eq_true rfl) (Nat.le_of_ble_eq_true rfl) dX6_remove_33 (fun H locs hP hD hS => ?_)
      replace hP : va_P E.1 vwCl (jw_Reading_remove E q_this q_book q_keys q_firsts q_entries c_size c_readSoFar (va_cpy a_keys a_keys (x1 + 1).toNatClampNeg x1.toNatClampNeg ((c_size - x1) - 1).toNatClampNeg)) H := hP
      replace hD : va_D A (jw_Reading_remove E q_this q_book q_keys q_firsts q_entries c_size c_readSoFar (va_cpy a_keys a_keys (x1 + 1).toNatClampNeg x1.toNatClampNeg ((c_size - x1) - 1).toNatClampNeg)) := hD
      refine lv_aload_n hx hb dX6_remove_36 rfl (lv_at hl 0 rfl) ?_
      refine lv_dup hx hb dX6_remove_37 rfl ?_
      refine va_get (D := E.1) (ci := 6) (v := .int c_size) (C := RX6) (T := TX6) (N := 6) hx hb hts hin6 hown hK.1 hP 0 rfl rfl 4 (by decide) hk_25 (fun _ h9 => h9) rfl dX6_remove_38 ?_
      refine lv_iconst (v := 1) hx hb dX6_remove_41 (by decide) ?_
      refine lv_isub hx hb dX6_remove_42 ?_
      refine va_put (D := E.1) (ci := 6) (v := .int (c_size - 1)) (ty := .int) (C := RX6) (T := TX6) (N := 6) hx hb hts hin6 tyX6 tyX6_ok nmX6 hown hK.1 hP hD hS 0 rfl rfl 4 (by decide) hk_25 (fun _ h9 => h9) rfl (by decide +kernel) rfl rfl (Nat.le_of_ble_eq_true rfl) dX6_remove_43 (fun H locs hP hD hS => ?_)
      replace hP : va_P E.1 vwCl (jw_Reading_remove E q_this q_book q_keys q_firsts q_entries (c_size - 1) c_readSoFar (va_cpy a_keys a_keys (x1 + 1).toNatClampNeg x1.toNatClampNeg ((c_size - x1) - 1).toNatClampNeg)) H := hP
      replace hD : va_D A (jw_Reading_remove E q_this q_book q_keys q_firsts q_entries (c_size - 1) c_readSoFar (va_cpy a_keys a_keys (x1 + 1).toNatClampNeg x1.toNatClampNeg ((c_size - x1) - 1).toNatClampNeg)) := hD
      exact j_vret (u := ((c_size - 1), (va_cpy a_keys a_keys (x1 + 1).toNatClampNeg x1.toNatClampNeg ((c_size - x1) - 1).toNatClampNeg))) (wv := (fun T => (jw_Reading_remove E q_this q_book q_keys q_firsts q_entries T.1 c_readSoFar T.2))) h hQ hx hb hr hlocks hS hP hD dX6_remove_46
    · replace h := jif_f hq9 h
      exact j_vret (u := (c_size, a_keys)) (wv := (fun T => (jw_Reading_remove E q_this q_book q_keys q_firsts q_entries T.1 c_readSoFar T.2))) h hQ hx hb hr hlocks hS hP hD dX6_remove_12
abbrev jw_Room_cut (E : jE) (q_this q_tape q_entries q_record q_page q_transcript q_planner q_runs q_chord q_outline q_record_keys q_record_firsts q_record_entries q_transcript_chord q_transcript_lasts q_transcript_behinds q_transcript_owners : Nat) (c_record_size : Int32) (c_record_readSoFar : Int32) (c_transcript_size : Int32) (c_transcript_raws : Int32) (c_transcript_settled : Int32) (a_record_keys : (Nat → Int32)) : va_W := [(q_this, .inr (10, [.ref q_tape, .ref q_entries, .ref q_record, .ref q_page, .ref q_transcript, .ref q_planner, .ref q_runs, .ref q_chord, .ref q_outline])), (q_record, .inr (6, [.ref q_entries, .ref q_record_keys, .ref q_record_firsts, .ref q_record_entries, .int c_record_size, .int c_record_readSoFar])), (q_transcript, .inr (9, [.ref q_entries, .ref q_record, .ref q_page, .ref q_transcript_chord, .ref q_transcript_lasts, .ref q_transcript_behinds, .ref q_transcript_owners, .int c_transcript_size, .int c_transcript_raws, .int c_transcript_settled])), (q_record_keys, .inl (E.2.2.1, 300, .inl a_record_keys))]
def jr_Room_cut : Room := { frames := 3, cells := 0, slots := 0, locals := 63 }
set_option maxHeartbeats 4000000 in
set_option maxRecDepth 100000 in
theorem jc_Room_cut (l : Launch) (E : jE) (q_this q_tape q_entries q_record q_page q_transcript q_planner q_runs q_chord q_outline q_record_keys q_record_firsts q_record_entries q_transcript_chord q_transcript_lasts q_transcript_behinds q_transcript_owners : Nat) (c_record_size : Int32) (c_record_readSoFar : Int32) (c_transcript_size : Int32) (c_transcript_raws : Int32) (c_transcript_settled : Int32) (a_record_keys : (Nat → Int32)) (x1 : Int32) (N : Nat) {T : Int32 × Int32 × Int32 × Int32 × (Nat → Int32)} (h : jf_Room_cut x1 c_record_size c_record_readSoFar c_transcript_settled a_record_keys = some T) : jMi l yX10_cut wsX10_cut jr_Room_cut E [.ref q_this, .int x1] (jw_Room_cut E q_this q_tape q_entries q_record q_page q_transcript q_planner q_runs q_chord q_outline q_record_keys q_record_firsts q_record_entries q_transcript_chord q_transcript_lasts q_transcript_behinds q_transcript_owners c_record_size c_record_readSoFar c_transcript_size c_transcript_raws c_transcript_settled a_record_keys) (T.1) (jw_Room_cut E q_this q_tape q_entries q_record q_page q_transcript q_planner q_runs q_chord q_outline q_record_keys q_record_firsts q_record_entries q_transcript_chord q_transcript_lasts q_transcript_behinds q_transcript_owners T.2.1 T.2.2.1 c_transcript_size c_transcript_raws T.2.2.2.1 T.2.2.2.2) := by
  refine jMi.begin (cc := cX10_cut) (maxL := 3) (ret := (some .int)) (by decide) rfl (Nat.le_of_ble_eq_true rfl) ?_
  intro p e s m args below meth c A ls Q hQ hx hb hr hml hown hlocks hts hK hA hP hD hS hl
  replace hown : s.vm.findClass RX10 = some m.cls := hown
  replace hl : lv_has ls 3 [(0, .ref q_this), (1, .int x1)] := hl
  have hin10 : ∀ w ∈ u_ws RX10 TX10 9, w ∈ wsX10_cut := by decide +kernel
  have hk_28 := hts (.fieldLink RX10 28 "StenoRoom" "record" "LStenoRoom$Reading;") (by decide +kernel)
  unfold jf_Room_cut at h
  refine lv_aload_n hx hb dX10_cut_0 rfl (lv_at hl 0 rfl) ?_
  refine va_get (D := E.1) (ci := 10) (v := .ref q_record) (C := RX10) (T := TX10) (N := 9) hx hb hts hin10 hown hK.1 hP 0 rfl rfl 2 (by decide) hk_28 (fun _ h9 => h9) rfl dX10_cut_1 ?_
  refine lv_iload_n hx hb dX10_cut_4 rfl (lv_at hl 1 rfl) ?_
  obtain ⟨r5, hf5, h⟩ := jbd h
  refine j_callVi (own := RX10) (As := [.int x1]) (rest := []) hx hb hml hown hts hK hA hP hD hS (jc_Reading_has l E q_record q_entries q_record_keys q_record_firsts q_record_entries c_record_size c_record_readSoFar x1 N hf5) gX10_cut_X6_has rfl ⟨rfl, rfl⟩ 1 (by decide +kernel) rfl rfl 1 6 rfl rfl [1] [0, 2, 3] [0, 3, 1, 2] rfl rfl rfl rfl rfl rfl rfl hl.1 rfl rfl dX10_cut_5 (fun H locs hP hD hS => ?_)
  replace hP : va_P E.1 vwCl (jw_Room_cut E q_this q_tape q_entries q_record q_page q_transcript q_planner q_runs q_chord q_outline q_record_keys q_record_firsts q_record_entries q_transcript_chord q_transcript_lasts q_transcript_behinds q_transcript_owners c_record_size c_record_readSoFar c_transcript_size c_transcript_raws c_transcript_settled a_record_keys) H := hP
  replace hD : va_D A (jw_Room_cut E q_this q_tape q_entries q_record q_page q_transcript q_planner q_runs q_chord q_outline q_record_keys q_record_firsts q_record_entries q_transcript_chord q_transcript_lasts q_transcript_behinds q_transcript_owners c_record_size c_record_readSoFar c_transcript_size c_transcript_raws c_transcript_settled a_record_keys) := hD
  refine lv_if_ne (tgt := 13) hx hb dX10_cut_8 (by decide) (fun hq8 => ?_) (fun hq8 => ?_)
  · replace h := jif_f hq8 h
    refine lv_aload_n hx hb dX10_cut_13 rfl (lv_at hl 0 rfl) ?_
    refine va_get (D := E.1) (ci := 10) (v := .ref q_record) (C := RX10) (T := TX10) (N := 9) hx hb hts hin10 hown hK.1 hP 0 rfl rfl 2 (by decide) hk_28 (fun _ h9 => h9) rfl dX10_cut_14 ?_
    refine lv_iload_n hx hb dX10_cut_17 rfl (lv_at hl 1 rfl) ?_
    obtain ⟨r18, hf18, h⟩ := jbd h
    refine j_callVi (own := RX10) (As := [.int x1]) (rest := []) hx hb hml hown hts hK hA hP hD hS (jc_Reading_keysAt l E q_record q_entries q_record_keys q_record_firsts q_record_entries c_record_size c_record_readSoFar a_record_keys x1 N hf18) gX10_cut_X6_keysAt rfl ⟨rfl, rfl⟩ 1 (by decide +kernel) rfl rfl 1 6 rfl rfl [1, 3] [0, 2] [0, 2, 1, 3] rfl rfl rfl rfl rfl rfl rfl hl.1 rfl rfl dX10_cut_18 (fun H locs hP hD hS => ?_)
    replace hP : va_P E.1 vwCl (jw_Room_cut E q_this q_tape q_entries q_record q_page q_transcript q_planner q_runs q_chord q_outline q_record_keys q_record_firsts q_record_entries q_transcript_chord q_transcript_lasts q_transcript_behinds q_transcript_owners c_record_size c_record_readSoFar c_transcript_size c_transcript_raws c_transcript_settled a_record_keys) H := hP
    replace hD : va_D A (jw_Room_cut E q_this q_tape q_entries q_record q_page q_transcript q_planner q_runs q_chord q_outline q_record_keys q_record_firsts q_record_entries q_transcript_chord q_transcript_lasts q_transcript_behinds q_transcript_owners c_record_size c_record_readSoFar c_transcript_size c_transcript_raws c_transcript_settled a_record_keys) := hD
    refine lv_istore_n (lv' := [(2, .int r18), (0, .ref q_this), (1, .int x1)]) hx hb dX10_cut_21 rfl hl (by decide) rfl (fun ls hl => ?_)
    refine lv_aload_n hx hb dX10_cut_22 rfl (lv_at hl 1 rfl) ?_
    refine va_get (D := E.1) (ci := 10) (v := .ref q_record) (C := RX10) (T := TX10) (N := 9) hx hb hts hin10 hown hK.1 hP 0 rfl rfl 2 (by decide) hk_28 (fun _ h9 => h9) rfl dX10_cut_23 ?_
    refine lv_iload_n hx hb dX10_cut_26 rfl (lv_at hl 2 rfl) ?_
    obtain ⟨⟨c_record_size_27, a_record_keys_27⟩, hf27, h⟩ := jbd h
    refine j_callVv (own := RX10) (As := [.int x1]) (rest := []) hx hb hml hown hts hK hA hP hD hS (jc_Reading_remove l E q_record q_entries q_record_keys q_record_firsts q_record_entries c_record_size c_record_readSoFar a_record_keys x1 N hf27) gX10_cut_X6_remove rfl ⟨rfl, rfl⟩ 1 (by decide +kernel) rfl rfl 1 6 rfl rfl [1, 3] [0, 2] [0, 2, 1, 3] rfl rfl rfl rfl rfl rfl rfl hl.1 rfl rfl dX10_cut_27 (fun H locs hP hD hS => ?_)
    replace hP : va_P E.1 vwCl (jw_Room_cut E q_this q_tape q_entries q_record q_page q_transcript q_planner q_runs q_chord q_outline q_record_keys q_record_firsts q_record_entries q_transcript_chord q_transcript_lasts q_transcript_behinds q_transcript_owners c_record_size_27 c_record_readSoFar c_transcript_size c_transcript_raws c_transcript_settled a_record_keys_27) H := hP
    replace hD : va_D A (jw_Room_cut E q_this q_tape q_entries q_record q_page q_transcript q_planner q_runs q_chord q_outline q_record_keys q_record_firsts q_record_entries q_transcript_chord q_transcript_lasts q_transcript_behinds q_transcript_owners c_record_size_27 c_record_readSoFar c_transcript_size c_transcript_raws c_transcript_settled a_record_keys_27) := hD
    refine lv_aload_n hx hb dX10_cut_30 rfl (lv_at hl 1 rfl) ?_
    refine lv_iload_n hx hb dX10_cut_31 rfl (lv_at hl 2 rfl) ?_
    obtain ⟨⟨c_record_readSoFar_32, c_transcript_settled_32⟩, hf32, h⟩ := jbd h
    refine j_callVv (own := RX10) (As := [.int x1]) (rest := []) hx hb hml hown hts hK hA hP hD hS (jc_Room_readAnew l E q_this q_tape q_entries q_record q_page q_transcript q_planner q_runs q_chord q_outline q_record_keys q_record_firsts q_record_entries q_transcript_chord q_transcript_lasts q_transcript_behinds q_transcript_owners c_record_size_27 c_record_readSoFar c_transcript_size c_transcript_raws c_transcript_settled x1 N hf32) gX10_cut_X10_readAnew rfl ⟨rfl, rfl⟩ 1 (by decide +kernel) rfl rfl 0 10 rfl rfl [0, 1, 2] [3] [1, 2, 3, 0] rfl rfl rfl rfl rfl rfl rfl hl.1 rfl rfl dX10_cut_32 (fun H locs hP hD hS => ?_)
    replace hP : va_P E.1 vwCl (jw_Room_cut E q_this q_tape q_entries q_record q_page q_transcript q_planner q_runs q_chord q_outline q_record_keys q_record_firsts q_record_entries q_transcript_chord q_transcript_lasts q_transcript_behinds q_transcript_owners c_record_size_27 c_record_readSoFar_32 c_transcript_size c_transcript_raws c_transcript_settled_32 a_record_keys_27) H := hP
    replace hD : va_D A (jw_Room_cut E q_this q_tape q_entries q_record q_page q_transcript q_planner q_runs q_chord q_outline q_record_keys q_record_firsts q_record_entries q_transcript_chord q_transcript_lasts q_transcript_behinds q_transcript_owners c_record_size_27 c_record_readSoFar_32 c_transcript_size c_transcript_raws c_transcript_settled_32 a_record_keys_27) := hD
    refine lv_iload_n hx hb dX10_cut_35 rfl (lv_at hl 0 rfl) ?_
    exact j_iret (u := (r18, c_record_size_27, c_record_readSoFar_32, c_transcript_settled_32, a_record_keys_27)) (rv := (fun T => T.1)) (wv := (fun T => (jw_Room_cut E q_this q_tape q_entries q_record q_page q_transcript q_planner q_runs q_chord q_outline q_record_keys q_record_firsts q_record_entries q_transcript_chord q_transcript_lasts q_transcript_behinds q_transcript_owners T.2.1 T.2.2.1 c_transcript_size c_transcript_raws T.2.2.2.1 T.2.2.2.2))) h hQ hx hb hr rfl hlocks hS hP hD dX10_cut_36
  · replace h := jif_t hq8 h
    refine lv_iconst (v := (-1)) hx hb dX10_cut_11 (by decide) ?_
    exact j_iret (u := ((-1), c_record_size, c_record_readSoFar, c_transcript_settled, a_record_keys)) (rv := (fun T => T.1)) (wv := (fun T => (jw_Room_cut E q_this q_tape q_entries q_record q_page q_transcript q_planner q_runs q_chord q_outline q_record_keys q_record_firsts q_record_entries q_transcript_chord q_transcript_lasts q_transcript_behinds q_transcript_owners T.2.1 T.2.2.1 c_transcript_size c_transcript_raws T.2.2.2.1 T.2.2.2.2))) h hQ hx hb hr rfl hlocks hS hP hD dX10_cut_12
abbrev jw_Room_back (E : jE) (q_this q_tape q_entries q_record q_page q_transcript q_planner q_runs q_chord q_outline q_record_keys q_record_firsts q_record_entries q_transcript_chord q_transcript_lasts q_transcript_behinds q_transcript_owners : Nat) (c_record_size : Int32) (c_record_readSoFar : Int32) (c_transcript_size : Int32) (c_transcript_raws : Int32) (c_transcript_settled : Int32) (a_record_keys : (Nat → Int32)) : va_W := [(q_this, .inr (10, [.ref q_tape, .ref q_entries, .ref q_record, .ref q_page, .ref q_transcript, .ref q_planner, .ref q_runs, .ref q_chord, .ref q_outline])), (q_record, .inr (6, [.ref q_entries, .ref q_record_keys, .ref q_record_firsts, .ref q_record_entries, .int c_record_size, .int c_record_readSoFar])), (q_transcript, .inr (9, [.ref q_entries, .ref q_record, .ref q_page, .ref q_transcript_chord, .ref q_transcript_lasts, .ref q_transcript_behinds, .ref q_transcript_owners, .int c_transcript_size, .int c_transcript_raws, .int c_transcript_settled])), (q_record_keys, .inl (E.2.2.1, 300, .inl a_record_keys))]
def jr_Room_back : Room := { frames := 4, cells := 0, slots := 0, locals := 85 }
set_option maxHeartbeats 4000000 in
set_option maxRecDepth 100000 in
theorem jc_Room_back (l : Launch) (E : jE) (q_this q_tape q_entries q_record q_page q_transcript q_planner q_runs q_chord q_outline q_record_keys q_record_firsts q_record_entries q_transcript_chord q_transcript_lasts q_transcript_behinds q_transcript_owners : Nat) (c_record_size : Int32) (c_record_readSoFar : Int32) (c_transcript_size : Int32) (c_transcript_raws : Int32) (c_transcript_settled : Int32) (a_record_keys : (Nat → Int32)) (N : Nat) {T : Int32 × Int32 × Int32 × Int32 × (Nat → Int32)} (h : jf_Room_back c_record_size c_record_readSoFar c_transcript_settled a_record_keys = some T) : jMi l yX10_back wsX10_back jr_Room_back E [.ref q_this] (jw_Room_back E q_this q_tape q_entries q_record q_page q_transcript q_planner q_runs q_chord q_outline q_record_keys q_record_firsts q_record_entries q_transcript_chord q_transcript_lasts q_transcript_behinds q_transcript_owners c_record_size c_record_readSoFar c_transcript_size c_transcript_raws c_transcript_settled a_record_keys) (T.1) (jw_Room_back E q_this q_tape q_entries q_record q_page q_transcript q_planner q_runs q_chord q_outline q_record_keys q_record_firsts q_record_entries q_transcript_chord q_transcript_lasts q_transcript_behinds q_transcript_owners T.2.1 T.2.2.1 c_transcript_size c_transcript_raws T.2.2.2.1 T.2.2.2.2) := by
  refine jMi.begin (cc := cX10_back) (maxL := 1) (ret := (some .int)) (by decide) rfl (Nat.le_of_ble_eq_true rfl) ?_
  intro p e s m args below meth c A ls Q hQ hx hb hr hml hown hlocks hts hK hA hP hD hS hl
  replace hown : s.vm.findClass RX10 = some m.cls := hown
  replace hl : lv_has ls 1 [(0, .ref q_this)] := hl
  have hin10 : ∀ w ∈ u_ws RX10 TX10 9, w ∈ wsX10_back := by decide +kernel
  have hk_28 := hts (.fieldLink RX10 28 "StenoRoom" "record" "LStenoRoom$Reading;") (by decide +kernel)
  unfold jf_Room_back at h
  refine lv_aload_n hx hb dX10_back_0 rfl (lv_at hl 0 rfl) ?_
  refine lv_aload_n hx hb dX10_back_1 rfl (lv_at hl 0 rfl) ?_
  refine va_get (D := E.1) (ci := 10) (v := .ref q_record) (C := RX10) (T := TX10) (N := 9) hx hb hts hin10 hown hK.1 hP 0 rfl rfl 2 (by decide) hk_28 (fun _ h9 => h9) rfl dX10_back_2 ?_
  obtain ⟨r5, hf5, h⟩ := jbd h
  refine j_callVi (own := RX10) (As := []) (rest := [.ref q_this]) hx hb hml hown hts hK hA hP hD hS (jc_Reading_size l E q_record q_entries q_record_keys q_record_firsts q_record_entries c_record_size c_record_readSoFar N hf5) gX10_back_X6_size rfl ⟨rfl, rfl⟩ 0 (by decide +kernel) rfl rfl 1 6 rfl rfl [1] [0, 2, 3] [0, 3, 1, 2] rfl rfl rfl rfl rfl rfl rfl hl.1 rfl rfl dX10_back_5 (fun H locs hP hD hS => ?_)
  replace hP : va_P E.1 vwCl (jw_Room_back E q_this q_tape q_entries q_record q_page q_transcript q_planner q_runs q_chord q_outline q_record_keys q_record_firsts q_record_entries q_transcript_chord q_transcript_lasts q_transcript_behinds q_transcript_owners c_record_size c_record_readSoFar c_transcript_size c_transcript_raws c_transcript_settled a_record_keys) H := hP
  replace hD : va_D A (jw_Room_back E q_this q_tape q_entries q_record q_page q_transcript q_planner q_runs q_chord q_outline q_record_keys q_record_firsts q_record_entries q_transcript_chord q_transcript_lasts q_transcript_behinds q_transcript_owners c_record_size c_record_readSoFar c_transcript_size c_transcript_raws c_transcript_settled a_record_keys) := hD
  refine lv_iconst (v := 1) hx hb dX10_back_8 (by decide) ?_
  refine lv_isub hx hb dX10_back_9 ?_
  obtain ⟨⟨r10, c_record_size_10, c_record_readSoFar_10, c_transcript_settled_10, a_record_keys_10⟩, hf10, h⟩ := jbd h
  refine j_callVi (own := RX10) (As := [.int (r5 - 1)]) (rest := []) hx hb hml hown hts hK hA hP hD hS (jc_Room_cut l E q_this q_tape q_entries q_record q_page q_transcript q_planner q_runs q_chord q_outline q_record_keys q_record_firsts q_record_entries q_transcript_chord q_transcript_lasts q_transcript_behinds q_transcript_owners c_record_size c_record_readSoFar c_transcript_size c_transcript_raws c_transcript_settled a_record_keys (r5 - 1) N hf10) gX10_back_X10_cut rfl ⟨rfl, rfl⟩ 1 (by decide +kernel) rfl rfl 0 10 rfl rfl [0, 1, 2, 3] [] [0, 1, 2, 3] rfl rfl rfl rfl rfl rfl rfl hl.1 rfl rfl dX10_back_10 (fun H locs hP hD hS => ?_)
  replace hP : va_P E.1 vwCl (jw_Room_back E q_this q_tape q_entries q_record q_page q_transcript q_planner q_runs q_chord q_outline q_record_keys q_record_firsts q_record_entries q_transcript_chord q_transcript_lasts q_transcript_behinds q_transcript_owners c_record_size_10 c_record_readSoFar_10 c_transcript_size c_transcript_raws c_transcript_settled_10 a_record_keys_10) H := hP
  replace hD : va_D A (jw_Room_back E q_this q_tape q_entries q_record q_page q_transcript q_planner q_runs q_chord q_outline q_record_keys q_record_firsts q_record_entries q_transcript_chord q_transcript_lasts q_transcript_behinds q_transcript_owners c_record_size_10 c_record_readSoFar_10 c_transcript_size c_transcript_raws c_transcript_settled_10 a_record_keys_10) := hD
  exact j_iret (u := (r10, c_record_size_10, c_record_readSoFar_10, c_transcript_settled_10, a_record_keys_10)) (rv := (fun T => T.1)) (wv := (fun T => (jw_Room_back E q_this q_tape q_entries q_record q_page q_transcript q_planner q_runs q_chord q_outline q_record_keys q_record_firsts q_record_entries q_transcript_chord q_transcript_lasts q_transcript_behinds q_transcript_owners T.2.1 T.2.2.1 c_transcript_size c_transcript_raws T.2.2.2.1 T.2.2.2.2))) h hQ hx hb hr rfl hlocks hS hP hD dX10_back_13
abbrev jw_Reading_replace (E : jE) (q_this q_book q_keys q_firsts q_entries : Nat) (c_size : Int32) (c_readSoFar : Int32) (a_keys : (Nat → Int32)) : va_W := [(q_this, .inr (6, [.ref q_book, .ref q_keys, .ref q_firsts, .ref q_entries, .int c_size, .int c_readSoFar])), (q_keys, .inl (E.2.2.1, 300, .inl a_keys))]
def jr_Reading_replace : Room := { frames := 0, cells := 0, slots := 0, locals := 0 }
set_option maxHeartbeats 4000000 in
set_option maxRecDepth 100000 in
theorem jc_Reading_replace (l : Launch) (E : jE) (q_this q_book q_keys q_firsts q_entries : Nat) (c_size : Int32) (c_readSoFar : Int32) (a_keys : (Nat → Int32)) (x1 : Int32) (x2 : Int32) (N : Nat) {T : (Nat → Int32)} (h : jf_Reading_replace x1 x2 c_size a_keys = some T) : jMv l yX6_replace wsX6_replace jr_Reading_replace E [.ref q_this, .int x1, .int x2] (jw_Reading_replace E q_this q_book q_keys q_firsts q_entries c_size c_readSoFar a_keys) (jw_Reading_replace E q_this q_book q_keys q_firsts q_entries c_size c_readSoFar T) := by
  refine jMv.begin (cc := cX6_replace) (maxL := 3) (ret := none) (by decide) rfl (Nat.le_of_ble_eq_true rfl) ?_
  intro p e s m args below meth c A ls Q hQ hx hb hr hml hown hlocks hts hK hA hP hD hS hl
  replace hown : s.vm.findClass RX6 = some m.cls := hown
  replace hl : lv_has ls 3 [(0, .ref q_this), (1, .int x1), (2, .int x2)] := hl
  have hin6 : ∀ w ∈ u_ws RX6 TX6 6, w ∈ wsX6_replace := by decide +kernel
  have hk_9 := hts (.fieldLink RX6 9 "StenoRoom$Reading" "keys" "[I") (by decide +kernel)
  have hk_25 := hts (.fieldLink RX6 25 "StenoRoom$Reading" "size" "I") (by decide +kernel)
  unfold jf_Reading_replace at h
  refine lv_iload_n hx hb dX6_replace_0 rfl (lv_at hl 1 rfl) ?_
  refine lv_if_lt (tgt := 19) hx hb dX6_replace_1 (by decide) (fun hq1 => ?_) (fun hq1 => ?_)
  · replace h := jif_t hq1 h
    exact j_vret (u := a_keys) (wv := (fun T => (jw_Reading_replace E q_this q_book q_keys q_firsts q_entries c_size c_readSoFar T))) h hQ hx hb hr hlocks hS hP hD dX6_replace_19
  · replace h := jif_f hq1 h
    refine lv_iload_n hx hb dX6_replace_4 rfl (lv_at hl 1 rfl) ?_
    refine lv_aload_n hx hb dX6_replace_5 rfl (lv_at hl 0 rfl) ?_
    refine va_get (D := E.1) (ci := 6) (v := .int c_size) (C := RX6) (T := TX6) (N := 6) hx hb hts hin6 hown hK.1 hP 0 rfl rfl 4 (by decide) hk_25 (fun _ h9 => h9) rfl dX6_replace_6 ?_
    refine lv_icmp_ge (tgt := 19) hx hb dX6_replace_9 (by decide) (fun hq9 => ?_) (fun hq9 => ?_)
    · replace h := jif_t hq9 h
      exact j_vret (u := a_keys) (wv := (fun T => (jw_Reading_replace E q_this q_book q_keys q_firsts q_entries c_size c_readSoFar T))) h hQ hx hb hr hlocks hS hP hD dX6_replace_19
    · replace h := jif_f hq9 h
      refine lv_aload_n hx hb dX6_replace_12 rfl (lv_at hl 0 rfl) ?_
      refine va_get (D := E.1) (ci := 6) (v := .ref q_keys) (C := RX6) (T := TX6) (N := 6) hx hb hts hin6 hown hK.1 hP 0 rfl rfl 1 (by decide) hk_9 (fun _ h9 => h9) rfl dX6_replace_13 ?_
      refine lv_iload_n hx hb dX6_replace_16 rfl (lv_at hl 1 rfl) ?_
      refine lv_iload_n hx hb dX6_replace_17 rfl (lv_at hl 2 rfl) ?_
      obtain ⟨g18, h⟩ := jga_e h
      refine va_iast hx hb hK.1 hP hD hS 1 1 rfl rfl g18 dX6_replace_18 (fun H locs hP hD hS => ?_)
      replace hP : va_P E.1 vwCl (jw_Reading_replace E q_this q_book q_keys q_firsts q_entries c_size c_readSoFar (upd a_keys x1.toNatClampNeg x2)) H := hP
      replace hD : va_D A (jw_Reading_replace E q_this q_book q_keys q_firsts q_entries c_size c_readSoFar (upd a_keys x1.toNatClampNeg x2)) := hD
      exact j_vret (u := (upd a_keys x1.toNatClampNeg x2)) (wv := (fun T => (jw_Reading_replace E q_this q_book q_keys q_firsts q_entries c_size c_readSoFar T))) h hQ hx hb hr hlocks hS hP hD dX6_replace_19
abbrev jw_Room_correct (E : jE) (q_this q_tape q_entries q_record q_page q_transcript q_planner q_runs q_chord q_outline q_record_keys q_record_firsts q_record_entries q_transcript_chord q_transcript_lasts q_transcript_behinds q_transcript_owners : Nat) (c_record_size : Int32) (c_record_readSoFar : Int32) (c_transcript_size : Int32) (c_transcript_raws : Int32) (c_transcript_settled : Int32) (a_record_keys : (Nat → Int32)) : va_W := [(q_this, .inr (10, [.ref q_tape, .ref q_entries, .ref q_record, .ref q_page, .ref q_transcript, .ref q_planner, .ref q_runs, .ref q_chord, .ref q_outline])), (q_record, .inr (6, [.ref q_entries, .ref q_record_keys, .ref q_record_firsts, .ref q_record_entries, .int c_record_size, .int c_record_readSoFar])), (q_transcript, .inr (9, [.ref q_entries, .ref q_record, .ref q_page, .ref q_transcript_chord, .ref q_transcript_lasts, .ref q_transcript_behinds, .ref q_transcript_owners, .int c_transcript_size, .int c_transcript_raws, .int c_transcript_settled])), (q_record_keys, .inl (E.2.2.1, 300, .inl a_record_keys))]
def jr_Room_correct : Room := { frames := 3, cells := 0, slots := 0, locals := 63 }
set_option maxHeartbeats 4000000 in
set_option maxRecDepth 100000 in
theorem jc_Room_correct (l : Launch) (E : jE) (q_this q_tape q_entries q_record q_page q_transcript q_planner q_runs q_chord q_outline q_record_keys q_record_firsts q_record_entries q_transcript_chord q_transcript_lasts q_transcript_behinds q_transcript_owners : Nat) (c_record_size : Int32) (c_record_readSoFar : Int32) (c_transcript_size : Int32) (c_transcript_raws : Int32) (c_transcript_settled : Int32) (a_record_keys : (Nat → Int32)) (x1 : Int32) (x2 : Int32) (N : Nat) {T : Int32 × Int32 × Int32 × (Nat → Int32)} (h : jf_Room_correct x1 x2 c_record_size c_record_readSoFar c_transcript_settled a_record_keys = some T) : jMi l yX10_correct wsX10_correct jr_Room_correct E [.ref q_this, .int x1, .int x2] (jw_Room_correct E q_this q_tape q_entries q_record q_page q_transcript q_planner q_runs q_chord q_outline q_record_keys q_record_firsts q_record_entries q_transcript_chord q_transcript_lasts q_transcript_behinds q_transcript_owners c_record_size c_record_readSoFar c_transcript_size c_transcript_raws c_transcript_settled a_record_keys) (T.1) (jw_Room_correct E q_this q_tape q_entries q_record q_page q_transcript q_planner q_runs q_chord q_outline q_record_keys q_record_firsts q_record_entries q_transcript_chord q_transcript_lasts q_transcript_behinds q_transcript_owners c_record_size T.2.1 c_transcript_size c_transcript_raws T.2.2.1 T.2.2.2) := by
  refine jMi.begin (cc := cX10_correct) (maxL := 3) (ret := (some .boolean)) (by decide) rfl (Nat.le_of_ble_eq_true rfl) ?_
  intro p e s m args below meth c A ls Q hQ hx hb hr hml hown hlocks hts hK hA hP hD hS hl
  replace hown : s.vm.findClass RX10 = some m.cls := hown
  replace hl : lv_has ls 3 [(0, .ref q_this), (1, .int x1), (2, .int x2)] := hl
  have hin10 : ∀ w ∈ u_ws RX10 TX10 9, w ∈ wsX10_correct := by decide +kernel
  have hk_28 := hts (.fieldLink RX10 28 "StenoRoom" "record" "LStenoRoom$Reading;") (by decide +kernel)
  unfold jf_Room_correct at h
  refine lv_aload_n hx hb dX10_correct_0 rfl (lv_at hl 0 rfl) ?_
  refine va_get (D := E.1) (ci := 10) (v := .ref q_record) (C := RX10) (T := TX10) (N := 9) hx hb hts hin10 hown hK.1 hP 0 rfl rfl 2 (by decide) hk_28 (fun _ h9 => h9) rfl dX10_correct_1 ?_
  refine lv_iload_n hx hb dX10_correct_4 rfl (lv_at hl 1 rfl) ?_
  obtain ⟨r5, hf5, h⟩ := jbd h
  refine j_callVi (own := RX10) (As := [.int x1]) (rest := []) hx hb hml hown hts hK hA hP hD hS (jc_Reading_has l E q_record q_entries q_record_keys q_record_firsts q_record_entries c_record_size c_record_readSoFar x1 N hf5) gX10_correct_X6_has rfl ⟨rfl, rfl⟩ 1 (by decide +kernel) rfl rfl 1 6 rfl rfl [1] [0, 2, 3] [0, 3, 1, 2] rfl rfl rfl rfl rfl rfl rfl hl.1 rfl rfl dX10_correct_5 (fun H locs hP hD hS => ?_)
  replace hP : va_P E.1 vwCl (jw_Room_correct E q_this q_tape q_entries q_record q_page q_transcript q_planner q_runs q_chord q_outline q_record_keys q_record_firsts q_record_entries q_transcript_chord q_transcript_lasts q_transcript_behinds q_transcript_owners c_record_size c_record_readSoFar c_transcript_size c_transcript_raws c_transcript_settled a_record_keys) H := hP
  replace hD : va_D A (jw_Room_correct E q_this q_tape q_entries q_record q_page q_transcript q_planner q_runs q_chord q_outline q_record_keys q_record_firsts q_record_entries q_transcript_chord q_transcript_lasts q_transcript_behinds q_transcript_owners c_record_size c_record_readSoFar c_transcript_size c_transcript_raws c_transcript_settled a_record_keys) := hD
  refine lv_if_eq (tgt := 18) hx hb dX10_correct_8 (by decide) (fun hq8 => ?_) (fun hq8 => ?_)
  · replace h := jif_t hq8 h
    refine lv_iconst (v := 0) hx hb dX10_correct_18 (by decide) ?_
    exact j_iret (u := (0, c_record_readSoFar, c_transcript_settled, a_record_keys)) (rv := (fun T => T.1)) (wv := (fun T => (jw_Room_correct E q_this q_tape q_entries q_record q_page q_transcript q_planner q_runs q_chord q_outline q_record_keys q_record_firsts q_record_entries q_transcript_chord q_transcript_lasts q_transcript_behinds q_transcript_owners c_record_size T.2.1 c_transcript_size c_transcript_raws T.2.2.1 T.2.2.2))) h hQ hx hb hr jb_0 hlocks hS hP hD dX10_correct_19
  · replace h := jif_f hq8 h
    refine lv_iload_n hx hb dX10_correct_11 rfl (lv_at hl 2 rfl) ?_
    obtain ⟨r12, hf12, h⟩ := jbd h
    refine j_callSi (own := RX10) (As := [.int x2]) (rest := []) hx hb hml hown hts hK hA hP hD hS (jc_Room_isStroke l E x2 N hf12) gX10_correct_X10_isStroke rfl ⟨rfl, rfl⟩ 1 (by decide +kernel) rfl rfl [] [0, 1, 2, 3] [0, 1, 2, 3] rfl rfl rfl rfl rfl rfl rfl hl.1 rfl rfl dX10_correct_12 (fun H locs hP hD hS => ?_)
    replace hP : va_P E.1 vwCl (jw_Room_correct E q_this q_tape q_entries q_record q_page q_transcript q_planner q_runs q_chord q_outline q_record_keys q_record_firsts q_record_entries q_transcript_chord q_transcript_lasts q_transcript_behinds q_transcript_owners c_record_size c_record_readSoFar c_transcript_size c_transcript_raws c_transcript_settled a_record_keys) H := hP
    replace hD : va_D A (jw_Room_correct E q_this q_tape q_entries q_record q_page q_transcript q_planner q_runs q_chord q_outline q_record_keys q_record_firsts q_record_entries q_transcript_chord q_transcript_lasts q_transcript_behinds q_transcript_owners c_record_size c_record_readSoFar c_transcript_size c_transcript_raws c_transcript_settled a_record_keys) := hD
    refine lv_if_ne (tgt := 20) hx hb dX10_correct_15 (by decide) (fun hq15 => ?_) (fun hq15 => ?_)
    · replace h := jif_f hq15 h
      refine lv_aload_n hx hb dX10_correct_20 rfl (lv_at hl 0 rfl) ?_
      refine va_get (D := E.1) (ci := 10) (v := .ref q_record) (C := RX10) (T := TX10) (N := 9) hx hb hts hin10 hown hK.1 hP 0 rfl rfl 2 (by decide) hk_28 (fun _ h9 => h9) rfl dX10_correct_21 ?_
      refine lv_iload_n hx hb dX10_correct_24 rfl (lv_at hl 1 rfl) ?_
      refine lv_iload_n hx hb dX10_correct_25 rfl (lv_at hl 2 rfl) ?_
      obtain ⟨a_record_keys_26, hf26, h⟩ := jbd h
      refine j_callVv (own := RX10) (As := [.int x1, .int x2]) (rest := []) hx hb hml hown hts hK hA hP hD hS (jc_Reading_replace l E q_record q_entries q_record_keys q_record_firsts q_record_entries c_record_size c_record_readSoFar a_record_keys x1 x2 N hf26) gX10_correct_X6_replace rfl ⟨rfl, rfl⟩ 2 (by decide +kernel) rfl rfl 1 6 rfl rfl [1, 3] [0, 2] [0, 2, 1, 3] rfl rfl rfl rfl rfl rfl rfl hl.1 rfl rfl dX10_correct_26 (fun H locs hP hD hS => ?_)
      replace hP : va_P E.1 vwCl (jw_Room_correct E q_this q_tape q_entries q_record q_page q_transcript q_planner q_runs q_chord q_outline q_record_keys q_record_firsts q_record_entries q_transcript_chord q_transcript_lasts q_transcript_behinds q_transcript_owners c_record_size c_record_readSoFar c_transcript_size c_transcript_raws c_transcript_settled a_record_keys_26) H := hP
      replace hD : va_D A (jw_Room_correct E q_this q_tape q_entries q_record q_page q_transcript q_planner q_runs q_chord q_outline q_record_keys q_record_firsts q_record_entries q_transcript_chord q_transcript_lasts q_transcript_behinds q_transcript_owners c_record_size c_record_readSoFar c_transcript_size c_transcript_raws c_transcript_settled a_record_keys_26) := hD
      refine lv_aload_n hx hb dX10_correct_29 rfl (lv_at hl 0 rfl) ?_
      refine lv_iload_n hx hb dX10_correct_30 rfl (lv_at hl 1 rfl) ?_
      obtain ⟨⟨c_record_readSoFar_31, c_transcript_settled_31⟩, hf31, h⟩ := jbd h
      refine j_callVv (own := RX10) (As := [.int x1]) (rest := []) hx hb hml hown hts hK hA hP hD hS (jc_Room_readAnew l E q_this q_tape q_entries q_record q_page q_transcript q_planner q_runs q_chord q_outline q_record_keys q_record_firsts q_record_entries q_transcript_chord q_transcript_lasts q_transcript_behinds q_transcript_owners c_record_size c_record_readSoFar c_transcript_size c_transcript_raws c_transcript_settled x1 N hf31) gX10_correct_X10_readAnew rfl ⟨rfl, rfl⟩ 1 (by decide +kernel) rfl rfl 0 10 rfl rfl [0, 1, 2] [3] [1, 2, 3, 0] rfl rfl rfl rfl rfl rfl rfl hl.1 rfl rfl dX10_correct_31 (fun H locs hP hD hS => ?_)
      replace hP : va_P E.1 vwCl (jw_Room_correct E q_this q_tape q_entries q_record q_page q_transcript q_planner q_runs q_chord q_outline q_record_keys q_record_firsts q_record_entries q_transcript_chord q_transcript_lasts q_transcript_behinds q_transcript_owners c_record_size c_record_readSoFar_31 c_transcript_size c_transcript_raws c_transcript_settled_31 a_record_keys_26) H := hP
      replace hD : va_D A (jw_Room_correct E q_this q_tape q_entries q_record q_page q_transcript q_planner q_runs q_chord q_outline q_record_keys q_record_firsts q_record_entries q_transcript_chord q_transcript_lasts q_transcript_behinds q_transcript_owners c_record_size c_record_readSoFar_31 c_transcript_size c_transcript_raws c_transcript_settled_31 a_record_keys_26) := hD
      refine lv_iconst (v := 1) hx hb dX10_correct_34 (by decide) ?_
      exact j_iret (u := (1, c_record_readSoFar_31, c_transcript_settled_31, a_record_keys_26)) (rv := (fun T => T.1)) (wv := (fun T => (jw_Room_correct E q_this q_tape q_entries q_record q_page q_transcript q_planner q_runs q_chord q_outline q_record_keys q_record_firsts q_record_entries q_transcript_chord q_transcript_lasts q_transcript_behinds q_transcript_owners c_record_size T.2.1 c_transcript_size c_transcript_raws T.2.2.1 T.2.2.2))) h hQ hx hb hr jb_1 hlocks hS hP hD dX10_correct_35
    · replace h := jif_t hq15 h
      refine lv_iconst (v := 0) hx hb dX10_correct_18 (by decide) ?_
      exact j_iret (u := (0, c_record_readSoFar, c_transcript_settled, a_record_keys)) (rv := (fun T => T.1)) (wv := (fun T => (jw_Room_correct E q_this q_tape q_entries q_record q_page q_transcript q_planner q_runs q_chord q_outline q_record_keys q_record_firsts q_record_entries q_transcript_chord q_transcript_lasts q_transcript_behinds q_transcript_owners c_record_size T.2.1 c_transcript_size c_transcript_raws T.2.2.1 T.2.2.2))) h hQ hx hb hr jb_0 hlocks hS hP hD dX10_correct_19
