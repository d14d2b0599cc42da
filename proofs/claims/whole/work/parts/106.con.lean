abbrev jw_Room_of (E : jE) (q_this q_tape q_entries q_record q_page q_transcript q_planner q_runs q_chord q_outline q_entries_kinds q_entries_strokeCounts q_entries_strokes q_entries_lengths q_entries_letters q_page_bytes q_record_keys q_record_firsts q_record_entries q_transcript_chord q_transcript_lasts q_transcript_behinds q_transcript_owners q_transcript_chord_letters : Nat) (c_entries_size : Int32) (c_page_size : Int32) (c_page_shift : Int32) (c_page_link : Int32) (c_page_lastWordLength : Int32) (c_page_lastWordVowels : Int32) (c_record_size : Int32) (c_record_readSoFar : Int32) (c_transcript_size : Int32) (c_transcript_raws : Int32) (c_transcript_settled : Int32) (c_transcript_chord_size : Int32) (a_entries_kinds : (Nat → Int32)) (a_entries_lengths : (Nat → Int32)) (a_entries_letters : (Nat → Int32)) (a_entries_strokeCounts : (Nat → Int32)) (a_entries_strokes : (Nat → Int32)) (a_page_bytes : (Nat → Int32)) (a_record_entries : (Nat → Int32)) (a_record_firsts : (Nat → Int32)) (a_record_keys : (Nat → Int32)) (a_transcript_behinds : (Nat → Int32)) (a_transcript_chord_letters : (Nat → Int32)) (a_transcript_lasts : (Nat → Int32)) (a_transcript_owners : (Nat → Int32)) : va_W := [(q_this, .inr (10, [.ref q_tape, .ref q_entries, .ref q_record, .ref q_page, .ref q_transcript, .ref q_planner, .ref q_runs, .ref q_chord, .ref q_outline])), (q_entries, .inr (0, [.ref q_entries_kinds, .ref q_entries_strokeCounts, .ref q_entries_strokes, .ref q_entries_lengths, .ref q_entries_letters, .int c_entries_size])), (q_page, .inr (4, [.ref q_entries, .ref q_page_bytes, .int c_page_size, .int c_page_shift, .int c_page_link, .int c_page_lastWordLength, .int c_page_lastWordVowels])), (q_record, .inr (6, [.ref q_entries, .ref q_record_keys, .ref q_record_firsts, .ref q_record_entries, .int c_record_size, .int c_record_readSoFar])), (q_transcript, .inr (9, [.ref q_entries, .ref q_record, .ref q_page, .ref q_transcript_chord, .ref q_transcript_lasts, .ref q_transcript_behinds, .ref q_transcript_owners, .int c_transcript_size, .int c_transcript_raws, .int c_transcript_settled])), (q_transcript_chord, .inr (2, [.ref q_transcript_chord_letters, .int c_transcript_chord_size])), (q_entries_kinds, .inl (E.2.2.1, 60, .inl a_entries_kinds)), (q_entries_lengths, .inl (E.2.2.1, 60, .inl a_entries_lengths)), (q_entries_letters, .inl (E.2.1, 960, .inl a_entries_letters)), (q_entries_strokeCounts, .inl (E.2.2.1, 60, .inl a_entries_strokeCounts)), (q_entries_strokes, .inl (E.2.2.1, 300, .inl a_entries_strokes)), (q_page_bytes, .inl (E.2.1, 6900, .inl a_page_bytes)), (q_record_entries, .inl (E.2.2.1, 300, .inl a_record_entries)), (q_record_firsts, .inl (E.2.2.1, 300, .inl a_record_firsts)), (q_record_keys, .inl (E.2.2.1, 300, .inl a_record_keys)), (q_transcript_behinds, .inl (E.2.2.1, 300, .inl a_transcript_behinds)), (q_transcript_chord_letters, .inl (E.2.1, 22, .inl a_transcript_chord_letters)), (q_transcript_lasts, .inl (E.2.2.1, 300, .inl a_transcript_lasts)), (q_transcript_owners, .inl (E.2.2.1, 300, .inl a_transcript_owners))]
def jr_Room_of : Room := { frames := 7, cells := 0, slots := 0, locals := 186 }
set_option maxHeartbeats 4000000 in
set_option maxRecDepth 100000 in
theorem jc_Room_of (l : Launch) (E : jE) (q_this q_tape q_entries q_record q_page q_transcript q_planner q_runs q_chord q_outline q_entries_kinds q_entries_strokeCounts q_entries_strokes q_entries_lengths q_entries_letters q_page_bytes q_record_keys q_record_firsts q_record_entries q_transcript_chord q_transcript_lasts q_transcript_behinds q_transcript_owners q_transcript_chord_letters : Nat) (c_entries_size : Int32) (c_page_size : Int32) (c_page_shift : Int32) (c_page_link : Int32) (c_page_lastWordLength : Int32) (c_page_lastWordVowels : Int32) (c_record_size : Int32) (c_record_readSoFar : Int32) (c_transcript_size : Int32) (c_transcript_raws : Int32) (c_transcript_settled : Int32) (c_transcript_chord_size : Int32) (a_entries_kinds : (Nat → Int32)) (a_entries_lengths : (Nat → Int32)) (a_entries_letters : (Nat → Int32)) (a_entries_strokeCounts : (Nat → Int32)) (a_entries_strokes : (Nat → Int32)) (a_page_bytes : (Nat → Int32)) (a_record_entries : (Nat → Int32)) (a_record_firsts : (Nat → Int32)) (a_record_keys : (Nat → Int32)) (a_transcript_behinds : (Nat → Int32)) (a_transcript_chord_letters : (Nat → Int32)) (a_transcript_lasts : (Nat → Int32)) (a_transcript_owners : (Nat → Int32)) (x1 : Int32) (N : Nat) {T : Int32 × Int32 × Int32 × Int32 × Int32 × Int32 × Int32 × Int32 × Int32 × Int32 × Int32 × (Nat → Int32) × (Nat → Int32) × (Nat → Int32) × (Nat → Int32) × (Nat → Int32) × (Nat → Int32) × (Nat → Int32)} (h : jf_Room_of N x1 c_entries_size c_record_size a_entries_kinds a_entries_lengths a_entries_letters a_entries_strokeCounts a_entries_strokes a_record_keys c_page_size c_page_shift c_page_link c_page_lastWordLength c_page_lastWordVowels c_record_readSoFar c_transcript_size c_transcript_raws c_transcript_settled c_transcript_chord_size a_page_bytes a_record_entries a_record_firsts a_transcript_behinds a_transcript_chord_letters a_transcript_lasts a_transcript_owners = some T) : jMi l yX10_of wsX10_of jr_Room_of E [.ref q_this, .int x1] (jw_Room_of E q_this q_tape q_entries q_record q_page q_transcript q_planner q_runs q_chord q_outline q_entries_kinds q_entries_strokeCounts q_entries_strokes q_entries_lengths q_entries_letters q_page_bytes q_record_keys q_record_firsts q_record_entries q_transcript_chord q_transcript_lasts q_transcript_behinds q_transcript_owners q_transcript_chord_letters c_entries_size c_page_size c_page_shift c_page_link c_page_lastWordLength c_page_lastWordVowels c_record_size c_record_readSoFar c_transcript_size c_transcript_raws c_transcript_settled c_transcript_chord_size a_entries_kinds a_entries_lengths a_entries_letters a_entries_strokeCounts a_entries_strokes a_page_bytes a_record_entries a_record_firsts a_record_keys a_transcript_behinds a_transcript_chord_letters a_transcript_lasts a_transcript_owners) (T.1) (jw_Room_of E q_this q_tape q_entries q_record q_page q_transcript q_planner q_runs q_chord q_outline q_entries_kinds q_entries_strokeCounts q_entries_strokes q_entries_lengths q_entries_letters q_page_bytes q_record_keys q_record_firsts q_record_entries q_transcript_chord q_transcript_lasts q_transcript_behinds q_transcript_owners q_transcript_chord_letters c_entries_size T.2.1 T.2.2.1 T.2.2.2.1 T.2.2.2.2.1 T.2.2.2.2.2.1 c_record_size T.2.2.2.2.2.2.1 T.2.2.2.2.2.2.2.1 T.2.2.2.2.2.2.2.2.1 T.2.2.2.2.2.2.2.2.2.1 T.2.2.2.2.2.2.2.2.2.2.1 a_entries_kinds a_entries_lengths a_entries_letters a_entries_strokeCounts a_entries_strokes T.2.2.2.2.2.2.2.2.2.2.2.1 T.2.2.2.2.2.2.2.2.2.2.2.2.1 T.2.2.2.2.2.2.2.2.2.2.2.2.2.1 a_record_keys T.2.2.2.2.2.2.2.2.2.2.2.2.2.2.1 T.2.2.2.2.2.2.2.2.2.2.2.2.2.2.2.1 T.2.2.2.2.2.2.2.2.2.2.2.2.2.2.2.2.1 T.2.2.2.2.2.2.2.2.2.2.2.2.2.2.2.2.2) := by
  refine jMi.begin (cc := cX10_of) (maxL := 2) (ret := (some .int)) (by decide) rfl (Nat.le_of_ble_eq_true rfl) ?_
  intro p e s m args below meth c A ls Q hQ hx hb hr hml hown hlocks hts hK hA hP hD hS hl
  replace hown : s.vm.findClass RX10 = some m.cls := hown
  replace hl : lv_has ls 2 [(0, .ref q_this), (1, .int x1)] := hl
  have hin10 : ∀ w ∈ u_ws RX10 TX10 9, w ∈ wsX10_of := by decide +kernel
  have hk_46 := hts (.fieldLink RX10 46 "StenoRoom" "transcript" "LStenoRoom$Transcript;") (by decide +kernel)
  unfold jf_Room_of at h
  refine lv_aload_n hx hb dX10_of_0 rfl (lv_at hl 0 rfl) ?_
  refine va_get (D := E.1) (ci := 10) (v := .ref q_transcript) (C := RX10) (T := TX10) (N := 9) hx hb hts hin10 hown hK.1 hP 0 rfl rfl 4 (by decide) hk_46 (fun _ h9 => h9) rfl dX10_of_1 ?_
  obtain ⟨⟨c_transcript_size_4, c_transcript_raws_4, c_transcript_settled_4, c_transcript_chord_size_4, c_page_size_4, c_page_shift_4, c_page_link_4, c_page_lastWordLength_4, c_page_lastWordVowels_4, c_record_readSoFar_4, a_transcript_behinds_4, a_transcript_chord_letters_4, a_transcript_lasts_4, a_transcript_owners_4, a_page_bytes_4, a_record_entries_4, a_record_firsts_4⟩, hf4, h⟩ := jbd h
  refine j_callVv (own := RX10) (As := []) (rest := []) hx hb hml hown hts hK hA hP hD hS (jc_Transcript_settle l E q_transcript q_entries q_record q_page q_transcript_chord q_transcript_lasts q_transcript_behinds q_transcript_owners q_entries_kinds q_entries_strokeCounts q_entries_strokes q_entries_lengths q_entries_letters q_transcript_chord_letters q_page_bytes q_record_keys q_record_firsts q_record_entries c_transcript_size c_transcript_raws c_transcript_settled c_entries_size c_transcript_chord_size c_page_size c_page_shift c_page_link c_page_lastWordLength c_page_lastWordVowels c_record_size c_record_readSoFar a_transcript_behinds a_entries_kinds a_entries_lengths a_entries_letters a_entries_strokeCounts a_entries_strokes a_transcript_chord_letters a_transcript_lasts a_transcript_owners a_page_bytes a_record_entries a_record_firsts a_record_keys N hf4) gX10_of_X9_settle rfl ⟨rfl, rfl⟩ 0 (by decide +kernel) rfl rfl 4 9 rfl rfl [4, 1, 5, 2, 3, 15, 6, 7, 8, 9, 10, 16, 17, 18, 11, 12, 13, 14] [0] [0, 2, 4, 5, 1, 3, 7, 8, 9, 10, 11, 15, 16, 17, 18, 6, 12, 13, 14] rfl rfl rfl rfl rfl rfl rfl hl.1 rfl rfl dX10_of_4 (fun H locs hP hD hS => ?_)
  replace hP : va_P E.1 vwCl (jw_Room_of E q_this q_tape q_entries q_record q_page q_transcript q_planner q_runs q_chord q_outline q_entries_kinds q_entries_strokeCounts q_entries_strokes q_entries_lengths q_entries_letters q_page_bytes q_record_keys q_record_firsts q_record_entries q_transcript_chord q_transcript_lasts q_transcript_behinds q_transcript_owners q_transcript_chord_letters c_entries_size c_page_size_4 c_page_shift_4 c_page_link_4 c_page_lastWordLength_4 c_page_lastWordVowels_4 c_record_size c_record_readSoFar_4 c_transcript_size_4 c_transcript_raws_4 c_transcript_settled_4 c_transcript_chord_size_4 a_entries_kinds a_entries_lengths a_entries_letters a_entries_strokeCounts a_entries_strokes a_page_bytes_4 a_record_entries_4 a_record_firsts_4 a_record_keys a_transcript_behinds_4 a_transcript_chord_letters_4 a_transcript_lasts_4 a_transcript_owners_4) H := hP
  replace hD : va_D A (jw_Room_of E q_this q_tape q_entries q_record q_page q_transcript q_planner q_runs q_chord q_outline q_entries_kinds q_entries_strokeCounts q_entries_strokes q_entries_lengths q_entries_letters q_page_bytes q_record_keys q_record_firsts q_record_entries q_transcript_chord q_transcript_lasts q_transcript_behinds q_transcript_owners q_transcript_chord_letters c_entries_size c_page_size_4 c_page_shift_4 c_page_link_4 c_page_lastWordLength_4 c_page_lastWordVowels_4 c_record_size c_record_readSoFar_4 c_transcript_size_4 c_transcript_raws_4 c_transcript_settled_4 c_transcript_chord_size_4 a_entries_kinds a_entries_lengths a_entries_letters a_entries_strokeCounts a_entries_strokes a_page_bytes_4 a_record_entries_4 a_record_firsts_4 a_record_keys a_transcript_behinds_4 a_transcript_chord_letters_4 a_transcript_lasts_4 a_transcript_owners_4) := hD
  refine lv_aload_n hx hb dX10_of_7 rfl (lv_at hl 0 rfl) ?_
  refine va_get (D := E.1) (ci := 10) (v := .ref q_transcript) (C := RX10) (T := TX10) (N := 9) hx hb hts hin10 hown hK.1 hP 0 rfl rfl 4 (by decide) hk_46 (fun _ h9 => h9) rfl dX10_of_8 ?_
  refine lv_iload_n hx hb dX10_of_11 rfl (lv_at hl 1 rfl) ?_
  obtain ⟨r12, hf12, h⟩ := jbd h
  refine j_callVi (own := RX10) (As := [.int x1]) (rest := []) hx hb hml hown hts hK hA hP hD hS (jc_Transcript_ownerOf l E q_transcript q_entries q_record q_page q_transcript_chord q_transcript_lasts q_transcript_behinds q_transcript_owners q_record_keys q_record_firsts q_record_entries c_transcript_size_4 c_transcript_raws_4 c_transcript_settled_4 c_record_size c_record_readSoFar_4 a_transcript_owners_4 x1 N hf12) gX10_of_X9_ownerOf rfl ⟨rfl, rfl⟩ 1 (by decide +kernel) rfl rfl 4 9 rfl rfl [4, 3, 18] [0, 1, 2, 5, 6, 7, 8, 9, 10, 11, 12, 13, 14, 15, 16, 17] [0, 1, 2, 17, 16, 3, 4, 5, 6, 7, 8, 9, 10, 11, 12, 13, 14, 15, 18] rfl rfl rfl rfl rfl rfl rfl hl.1 rfl rfl dX10_of_12 (fun H locs hP hD hS => ?_)
  replace hP : va_P E.1 vwCl (jw_Room_of E q_this q_tape q_entries q_record q_page q_transcript q_planner q_runs q_chord q_outline q_entries_kinds q_entries_strokeCounts q_entries_strokes q_entries_lengths q_entries_letters q_page_bytes q_record_keys q_record_firsts q_record_entries q_transcript_chord q_transcript_lasts q_transcript_behinds q_transcript_owners q_transcript_chord_letters c_entries_size c_page_size_4 c_page_shift_4 c_page_link_4 c_page_lastWordLength_4 c_page_lastWordVowels_4 c_record_size c_record_readSoFar_4 c_transcript_size_4 c_transcript_raws_4 c_transcript_settled_4 c_transcript_chord_size_4 a_entries_kinds a_entries_lengths a_entries_letters a_entries_strokeCounts a_entries_strokes a_page_bytes_4 a_record_entries_4 a_record_firsts_4 a_record_keys a_transcript_behinds_4 a_transcript_chord_letters_4 a_transcript_lasts_4 a_transcript_owners_4) H := hP
  replace hD : va_D A (jw_Room_of E q_this q_tape q_entries q_record q_page q_transcript q_planner q_runs q_chord q_outline q_entries_kinds q_entries_strokeCounts q_entries_strokes q_entries_lengths q_entries_letters q_page_bytes q_record_keys q_record_firsts q_record_entries q_transcript_chord q_transcript_lasts q_transcript_behinds q_transcript_owners q_transcript_chord_letters c_entries_size c_page_size_4 c_page_shift_4 c_page_link_4 c_page_lastWordLength_4 c_page_lastWordVowels_4 c_record_size c_record_readSoFar_4 c_transcript_size_4 c_transcript_raws_4 c_transcript_settled_4 c_transcript_chord_size_4 a_entries_kinds a_entries_lengths a_entries_letters a_entries_strokeCounts a_entries_strokes a_page_bytes_4 a_record_entries_4 a_record_firsts_4 a_record_keys a_transcript_behinds_4 a_transcript_chord_letters_4 a_transcript_lasts_4 a_transcript_owners_4) := hD
  exact j_iret (u := (r12, c_page_size_4, c_page_shift_4, c_page_link_4, c_page_lastWordLength_4, c_page_lastWordVowels_4, c_record_readSoFar_4, c_transcript_size_4, c_transcript_raws_4, c_transcript_settled_4, c_transcript_chord_size_4, a_page_bytes_4, a_record_entries_4, a_record_firsts_4, a_transcript_behinds_4, a_transcript_chord_letters_4, a_transcript_lasts_4, a_transcript_owners_4)) (rv := (fun T => T.1)) (wv := (fun T => (jw_Room_of E q_this q_tape q_entries q_record q_page q_transcript q_planner q_runs q_chord q_outline q_entries_kinds q_entries_strokeCounts q_entries_strokes q_entries_lengths q_entries_letters q_page_bytes q_record_keys q_record_firsts q_record_entries q_transcript_chord q_transcript_lasts q_transcript_behinds q_transcript_owners q_transcript_chord_letters c_entries_size T.2.1 T.2.2.1 T.2.2.2.1 T.2.2.2.2.1 T.2.2.2.2.2.1 c_record_size T.2.2.2.2.2.2.1 T.2.2.2.2.2.2.2.1 T.2.2.2.2.2.2.2.2.1 T.2.2.2.2.2.2.2.2.2.1 T.2.2.2.2.2.2.2.2.2.2.1 a_entries_kinds a_entries_lengths a_entries_letters a_entries_strokeCounts a_entries_strokes T.2.2.2.2.2.2.2.2.2.2.2.1 T.2.2.2.2.2.2.2.2.2.2.2.2.1 T.2.2.2.2.2.2.2.2.2.2.2.2.2.1 a_record_keys T.2.2.2.2.2.2.2.2.2.2.2.2.2.2.1 T.2.2.2.2.2.2.2.2.2.2.2.2.2.2.2.1 T.2.2.2.2.2.2.2.2.2.2.2.2.2.2.2.2.1 T.2.2.2.2.2.2.2.2.2.2.2.2.2.2.2.2.2))) h hQ hx hb hr rfl hlocks hS hP hD dX10_of_15
abbrev jw_Room_written (E : jE) (q_this q_tape q_entries q_record q_page q_transcript q_planner q_runs q_chord q_outline q_chord_letters q_record_keys q_record_firsts q_record_entries : Nat) (c_chord_size : Int32) (c_record_size : Int32) (c_record_readSoFar : Int32) (a_chord_letters : (Nat → Int32)) (a_record_keys : (Nat → Int32)) : va_W := [(q_this, .inr (10, [.ref q_tape, .ref q_entries, .ref q_record, .ref q_page, .ref q_transcript, .ref q_planner, .ref q_runs, .ref q_chord, .ref q_outline])), (q_chord, .inr (2, [.ref q_chord_letters, .int c_chord_size])), (q_record, .inr (6, [.ref q_entries, .ref q_record_keys, .ref q_record_firsts, .ref q_record_entries, .int c_record_size, .int c_record_readSoFar])), (q_chord_letters, .inl (E.2.1, 22, .inl a_chord_letters)), (q_record_keys, .inl (E.2.2.1, 300, .inl a_record_keys))]
def jr_Room_written : Room := { frames := 5, cells := 0, slots := 0, locals := 143 }
set_option maxHeartbeats 4000000 in
set_option maxRecDepth 100000 in
theorem jc_Room_written (l : Launch) (E : jE) (q_this q_tape q_entries q_record q_page q_transcript q_planner q_runs q_chord q_outline q_chord_letters q_record_keys q_record_firsts q_record_entries : Nat) (c_chord_size : Int32) (c_record_size : Int32) (c_record_readSoFar : Int32) (a_chord_letters : (Nat → Int32)) (a_record_keys : (Nat → Int32)) (x1 : Int32) (x2 : Int32) (N : Nat) {T : Int32 × Int32 × (Nat → Int32)} (h : jf_Room_written N x1 x2 c_record_size a_record_keys c_chord_size a_chord_letters = some T) : jMi l yX10_written wsX10_written jr_Room_written E [.ref q_this, .int x1, .int x2] (jw_Room_written E q_this q_tape q_entries q_record q_page q_transcript q_planner q_runs q_chord q_outline q_chord_letters q_record_keys q_record_firsts q_record_entries c_chord_size c_record_size c_record_readSoFar a_chord_letters a_record_keys) (T.1) (jw_Room_written E q_this q_tape q_entries q_record q_page q_transcript q_planner q_runs q_chord q_outline q_chord_letters q_record_keys q_record_firsts q_record_entries T.2.1 c_record_size c_record_readSoFar T.2.2 a_record_keys) := by
  refine jMi.begin (cc := cX10_written) (maxL := 3) (ret := (some .int)) (by decide) rfl (Nat.le_of_ble_eq_true rfl) ?_
  intro p e s m args below meth c A ls Q hQ hx hb hr hml hown hlocks hts hK hA hP hD hS hl
  replace hown : s.vm.findClass RX10 = some m.cls := hown
  replace hl : lv_has ls 3 [(0, .ref q_this), (1, .int x1), (2, .int x2)] := hl
  have hin10 : ∀ w ∈ u_ws RX10 TX10 9, w ∈ wsX10_written := by decide +kernel
  have hk_28 := hts (.fieldLink RX10 28 "StenoRoom" "record" "LStenoRoom$Reading;") (by decide +kernel)
  have hk_67 := hts (.fieldLink RX10 67 "StenoRoom" "chord" "LStenoRoom$Chord;") (by decide +kernel)
  unfold jf_Room_written at h
  refine lv_aload_n hx hb dX10_written_0 rfl (lv_at hl 0 rfl) ?_
  refine va_get (D := E.1) (ci := 10) (v := .ref q_record) (C := RX10) (T := TX10) (N := 9) hx hb hts hin10 hown hK.1 hP 0 rfl rfl 2 (by decide) hk_28 (fun _ h9 => h9) rfl dX10_written_1 ?_
  refine lv_iload_n hx hb dX10_written_4 rfl (lv_at hl 1 rfl) ?_
  obtain ⟨r5, hf5, h⟩ := jbd h
  refine j_callVi (own := RX10) (As := [.int x1]) (rest := []) hx hb hml hown hts hK hA hP hD hS (jc_Reading_has l E q_record q_entries q_record_keys q_record_firsts q_record_entries c_record_size c_record_readSoFar x1 N hf5) gX10_written_X6_has rfl ⟨rfl, rfl⟩ 1 (by decide +kernel) rfl rfl 2 6 rfl rfl [2] [0, 1, 3, 4] [0, 1, 4, 2, 3] rfl rfl rfl rfl rfl rfl rfl hl.1 rfl rfl dX10_written_5 (fun H locs hP hD hS => ?_)
  replace hP : va_P E.1 vwCl (jw_Room_written E q_this q_tape q_entries q_record q_page q_transcript q_planner q_runs q_chord q_outline q_chord_letters q_record_keys q_record_firsts q_record_entries c_chord_size c_record_size c_record_readSoFar a_chord_letters a_record_keys) H := hP
  replace hD : va_D A (jw_Room_written E q_this q_tape q_entries q_record q_page q_transcript q_planner q_runs q_chord q_outline q_chord_letters q_record_keys q_record_firsts q_record_entries c_chord_size c_record_size c_record_readSoFar a_chord_letters a_record_keys) := hD
  refine lv_if_ne (tgt := 13) hx hb dX10_written_8 (by decide) (fun hq8 => ?_) (fun hq8 => ?_)
  · replace h := jif_f hq8 h
    refine lv_aload_n hx hb dX10_written_13 rfl (lv_at hl 0 rfl) ?_
    refine va_get (D := E.1) (ci := 10) (v := .ref q_chord) (C := RX10) (T := TX10) (N := 9) hx hb hts hin10 hown hK.1 hP 0 rfl rfl 7 (by decide) hk_67 (fun _ h9 => h9) rfl dX10_written_14 ?_
    refine lv_aload_n hx hb dX10_written_17 rfl (lv_at hl 0 rfl) ?_
    refine va_get (D := E.1) (ci := 10) (v := .ref q_record) (C := RX10) (T := TX10) (N := 9) hx hb hts hin10 hown hK.1 hP 0 rfl rfl 2 (by decide) hk_28 (fun _ h9 => h9) rfl dX10_written_18 ?_
    refine lv_iload_n hx hb dX10_written_21 rfl (lv_at hl 1 rfl) ?_
    obtain ⟨r22, hf22, h⟩ := jbd h
    refine j_callVi (own := RX10) (As := [.int x1]) (rest := [.ref q_chord]) hx hb hml hown hts hK hA hP hD hS (jc_Reading_keysAt l E q_record q_entries q_record_keys q_record_firsts q_record_entries c_record_size c_record_readSoFar a_record_keys x1 N hf22) gX10_written_X6_keysAt rfl ⟨rfl, rfl⟩ 1 (by decide +kernel) rfl rfl 2 6 rfl rfl [2, 4] [0, 1, 3] [0, 1, 3, 2, 4] rfl rfl rfl rfl rfl rfl rfl hl.1 rfl rfl dX10_written_22 (fun H locs hP hD hS => ?_)
    replace hP : va_P E.1 vwCl (jw_Room_written E q_this q_tape q_entries q_record q_page q_transcript q_planner q_runs q_chord q_outline q_chord_letters q_record_keys q_record_firsts q_record_entries c_chord_size c_record_size c_record_readSoFar a_chord_letters a_record_keys) H := hP
    replace hD : va_D A (jw_Room_written E q_this q_tape q_entries q_record q_page q_transcript q_planner q_runs q_chord q_outline q_chord_letters q_record_keys q_record_firsts q_record_entries c_chord_size c_record_size c_record_readSoFar a_chord_letters a_record_keys) := hD
    obtain ⟨⟨c_chord_size_25, a_chord_letters_25⟩, hf25, h⟩ := jbd h
    refine j_callVv (own := RX10) (As := [.int r22]) (rest := []) hx hb hml hown hts hK hA hP hD hS (jc_Chord_spell l E q_chord q_chord_letters c_chord_size a_chord_letters r22 N hf25) gX10_written_X2_spell rfl ⟨rfl, rfl⟩ 1 (by decide +kernel) rfl rfl 1 2 rfl rfl [1, 3] [0, 2, 4] [0, 3, 1, 4, 2] rfl rfl rfl rfl rfl rfl rfl hl.1 rfl rfl dX10_written_25 (fun H locs hP hD hS => ?_)
    replace hP : va_P E.1 vwCl (jw_Room_written E q_this q_tape q_entries q_record q_page q_transcript q_planner q_runs q_chord q_outline q_chord_letters q_record_keys q_record_firsts q_record_entries c_chord_size_25 c_record_size c_record_readSoFar a_chord_letters_25 a_record_keys) H := hP
    replace hD : va_D A (jw_Room_written E q_this q_tape q_entries q_record q_page q_transcript q_planner q_runs q_chord q_outline q_chord_letters q_record_keys q_record_firsts q_record_entries c_chord_size_25 c_record_size c_record_readSoFar a_chord_letters_25 a_record_keys) := hD
    refine lv_aload_n hx hb dX10_written_28 rfl (lv_at hl 0 rfl) ?_
    refine va_get (D := E.1) (ci := 10) (v := .ref q_chord) (C := RX10) (T := TX10) (N := 9) hx hb hts hin10 hown hK.1 hP 0 rfl rfl 7 (by decide) hk_67 (fun _ h9 => h9) rfl dX10_written_29 ?_
    refine lv_iload_n hx hb dX10_written_32 rfl (lv_at hl 2 rfl) ?_
    obtain ⟨r33, hf33, h⟩ := jbd h
    refine j_callVi (own := RX10) (As := [.int x2]) (rest := []) hx hb hml hown hts hK hA hP hD hS (jc_Chord_byteAt l E q_chord q_chord_letters c_chord_size_25 a_chord_letters_25 x2 N hf33) gX10_written_X2_byteAt rfl ⟨rfl, rfl⟩ 1 (by decide +kernel) rfl rfl 1 2 rfl rfl [1, 3] [0, 2, 4] [0, 3, 1, 4, 2] rfl rfl rfl rfl rfl rfl rfl hl.1 rfl rfl dX10_written_33 (fun H locs hP hD hS => ?_)
    replace hP : va_P E.1 vwCl (jw_Room_written E q_this q_tape q_entries q_record q_page q_transcript q_planner q_runs q_chord q_outline q_chord_letters q_record_keys q_record_firsts q_record_entries c_chord_size_25 c_record_size c_record_readSoFar a_chord_letters_25 a_record_keys) H := hP
    replace hD : va_D A (jw_Room_written E q_this q_tape q_entries q_record q_page q_transcript q_planner q_runs q_chord q_outline q_chord_letters q_record_keys q_record_firsts q_record_entries c_chord_size_25 c_record_size c_record_readSoFar a_chord_letters_25 a_record_keys) := hD
    exact j_iret (u := (r33, c_chord_size_25, a_chord_letters_25)) (rv := (fun T => T.1)) (wv := (fun T => (jw_Room_written E q_this q_tape q_entries q_record q_page q_transcript q_planner q_runs q_chord q_outline q_chord_letters q_record_keys q_record_firsts q_record_entries T.2.1 c_record_size c_record_readSoFar T.2.2 a_record_keys))) h hQ hx hb hr rfl hlocks hS hP hD dX10_written_36
  · replace h := jif_t hq8 h
    refine lv_iconst (v := (-1)) hx hb dX10_written_11 (by decide) ?_
    exact j_iret (u := ((-1), c_chord_size, a_chord_letters)) (rv := (fun T => T.1)) (wv := (fun T => (jw_Room_written E q_this q_tape q_entries q_record q_page q_transcript q_planner q_runs q_chord q_outline q_chord_letters q_record_keys q_record_firsts q_record_entries T.2.1 c_record_size c_record_readSoFar T.2.2 a_record_keys))) h hQ hx hb hr rfl hlocks hS hP hD dX10_written_12
abbrev jw_Planner_take (E : jE) (q_this q_book q_prefixed q_glued q_joined q_trial q_words q_draft q_latest q_arg1 q_arg1_bytes : Nat) (c_length : Int32) (c_drafted : Int32) (c_latestEntries : Int32) (c_latestStrokes : Int32) (c_latestClear : Int32) (c_arg1_size : Int32) (a_arg1_bytes : (Nat → Int32)) (a_words : (Nat → Int32)) : va_W := [(q_this, .inr (5, [.ref q_book, .ref q_prefixed, .ref q_glued, .ref q_joined, .ref q_trial, .ref q_words, .int c_length, .ref q_draft, .int c_drafted, .ref q_latest, .int c_latestEntries, .int c_latestStrokes, .int c_latestClear])), (q_arg1, .inr (8, [.ref q_arg1_bytes, .int c_arg1_size])), (q_arg1_bytes, .inl (E.2.1, 80, .inl a_arg1_bytes)), (q_words, .inl (E.2.1, 60, .inl a_words))]
def jr_Planner_take : Room := { frames := 1, cells := 0, slots := 0, locals := 21 }
set_option maxHeartbeats 4000000 in
set_option maxRecDepth 100000 in
theorem jc_Planner_take (l : Launch) (E : jE) (q_this q_book q_prefixed q_glued q_joined q_trial q_words q_draft q_latest q_arg1 q_arg1_bytes : Nat) (c_length : Int32) (c_drafted : Int32) (c_latestEntries : Int32) (c_latestStrokes : Int32) (c_latestClear : Int32) (c_arg1_size : Int32) (a_arg1_bytes : (Nat → Int32)) (a_words : (Nat → Int32)) (x2 : Int32) (N : Nat) {T : Int32 × (Nat → Int32)} (h : jf_Planner_take N x2 c_arg1_size a_arg1_bytes c_length a_words = some T) : jMv l yX5_take wsX5_take jr_Planner_take E [.ref q_this, .ref q_arg1, .int x2] (jw_Planner_take E q_this q_book q_prefixed q_glued q_joined q_trial q_words q_draft q_latest q_arg1 q_arg1_bytes c_length c_drafted c_latestEntries c_latestStrokes c_latestClear c_arg1_size a_arg1_bytes a_words) (jw_Planner_take E q_this q_book q_prefixed q_glued q_joined q_trial q_words q_draft q_latest q_arg1 q_arg1_bytes T.1 c_drafted c_latestEntries c_latestStrokes c_latestClear c_arg1_size a_arg1_bytes T.2) := by
  refine jMv.begin (cc := cX5_take) (maxL := 4) (ret := none) (by decide) rfl (Nat.le_of_ble_eq_true rfl) ?_
  intro p e s m args below meth c A ls Q hQ hx hb hr hml hown hlocks hts hK hA hP hD hS hl
  replace hown : s.vm.findClass RX5 = some m.cls := hown
  replace hl : lv_has ls 4 [(0, .ref q_this), (1, .ref q_arg1), (2, .int x2)] := hl
  have hin5 : ∀ w ∈ u_ws RX5 TX5 13, w ∈ wsX5_take := by decide +kernel
  have hk_9 := hts (.fieldLink RX5 9 "StenoRoom$Planner" "words" "[B") (by decide +kernel)
  have hk_64 := hts (.fieldLink RX5 64 "StenoRoom$Planner" "length" "I") (by decide +kernel)
  have kb7 : ∀ (n : Nat) (x3 : Int32) (c_length : Int32) (a_words : (Nat → Int32)) (H : Heap) (locs : List Loc) (ls : Array Slot), jf_Planner_take_b7 x2 c_arg1_size a_arg1_bytes n x3 c_length a_words = some T → va_P E.1 vwCl (jw_Planner_take E q_this q_book q_prefixed q_glued q_joined q_trial q_words q_draft q_latest q_arg1 q_arg1_bytes c_length c_drafted c_latestEntries c_latestStrokes c_latestClear c_arg1_size a_arg1_bytes a_words) H → va_D A (jw_Planner_take E q_this q_book q_prefixed q_glued q_joined q_trial q_words q_draft q_latest q_arg1 q_arg1_bytes c_length c_drafted c_latestEntries c_latestStrokes c_latestClear c_arg1_size a_arg1_bytes a_words) → va_S A s.heap H locs → lv_has ls 4 [(0, .ref q_this), (1, .ref q_arg1), (2, .int x2), (3, .int x3)] → W p l e jr_Planner_take s m args below meth c H locs 0 0 Q (F0 m 7 ls []) := by
    intro n
    induction n with
    | zero => intro x3 c_length a_words H locs ls h; exact j_none (α := Int32 × (Nat → Int32)) h
    | succ n ih =>
      intro x3 c_length a_words H locs ls h hP hD hS hl
      rw [jf_Planner_take_b7] at h
      refine lv_iload_n hx hb dX5_take_7 rfl (lv_at hl 3 rfl) ?_
      refine lv_iload_n hx hb dX5_take_8 rfl (lv_at hl 2 rfl) ?_
      refine lv_icmp_ge (tgt := 46) hx hb dX5_take_9 (by decide) (fun hq9 => ?_) (fun hq9 => ?_)
      · replace h := jif_t hq9 h
        exact j_vret (u := (c_length, a_words)) (wv := (fun T => (jw_Planner_take E q_this q_book q_prefixed q_glued q_joined q_trial q_words q_draft q_latest q_arg1 q_arg1_bytes T.1 c_drafted c_latestEntries c_latestStrokes c_latestClear c_arg1_size a_arg1_bytes T.2))) h hQ hx hb hr hlocks hS hP hD dX5_take_46
      · replace h := jif_f hq9 h
        refine lv_iload_n hx hb dX5_take_12 rfl (lv_at hl 3 rfl) ?_
        refine lv_bipush (v := 60) hx hb dX5_take_13 (by decide) ?_
        refine lv_icmp_ge (tgt := 46) hx hb dX5_take_15 (by decide) (fun hq15 => ?_) (fun hq15 => ?_)
        · replace h := jif_t hq15 h
          exact j_vret (u := (c_length, a_words)) (wv := (fun T => (jw_Planner_take E q_this q_book q_prefixed q_glued q_joined q_trial q_words q_draft q_latest q_arg1 q_arg1_bytes T.1 c_drafted c_latestEntries c_latestStrokes c_latestClear c_arg1_size a_arg1_bytes T.2))) h hQ hx hb hr hlocks hS hP hD dX5_take_46
        · replace h := jif_f hq15 h
          refine lv_aload_n hx hb dX5_take_18 rfl (lv_at hl 0 rfl) ?_
          refine va_get (D := E.1) (ci := 5) (v := .ref q_words) (C := RX5) (T := TX5) (N := 13) hx hb hts hin5 hown hK.1 hP 0 rfl rfl 5 (by decide) hk_9 (fun _ h9 => h9) rfl dX5_take_19 ?_
          refine lv_iload_n hx hb dX5_take_22 rfl (lv_at hl 3 rfl) ?_
          refine lv_aload_n hx hb dX5_take_23 rfl (lv_at hl 1 rfl) ?_
          refine lv_iload_n hx hb dX5_take_24 rfl (lv_at hl 3 rfl) ?_
          obtain ⟨r25, hf25, h⟩ := jbd h
          refine j_callVi (own := RX5) (As := [.int x3]) (rest := [.int x3, .ref q_words]) hx hb hml hown hts hK hA hP hD hS (jc_Tape_byteAt l E q_arg1 q_arg1_bytes c_arg1_size a_arg1_bytes x3 N hf25) gX5_take_X8_byteAt rfl ⟨rfl, rfl⟩ 1 (by decide +kernel) rfl rfl 1 8 rfl rfl [1, 2] [0, 3] [0, 2, 3, 1] rfl rfl rfl rfl rfl rfl rfl hl.1 rfl rfl dX5_take_25 (fun H locs hP hD hS => ?_)
          replace hP : va_P E.1 vwCl (jw_Planner_take E q_this q_book q_prefixed q_glued q_joined q_trial q_words q_draft q_latest q_arg1 q_arg1_bytes c_length c_drafted c_latestEntries c_latestStrokes c_latestClear c_arg1_size a_arg1_bytes a_words) H := hP
          replace hD : va_D A (jw_Planner_take E q_this q_book q_prefixed q_glued q_joined q_trial q_words q_draft q_latest q_arg1 q_arg1_bytes c_length c_drafted c_latestEntries c_latestStrokes c_latestClear c_arg1_size a_arg1_bytes a_words) := hD
          refine lv_i2b (v := r25.toInt8.toInt32) hx hb dX5_take_28 rfl ?_
          obtain ⟨g29, h⟩ := jga_e h
          refine va_bast hx hb hK.1 hP hD hS 3 0 rfl rfl g29 dX5_take_29 (fun H locs hP hD hS => ?_)
          replace hP : va_P E.1 vwCl (jw_Planner_take E q_this q_book q_prefixed q_glued q_joined q_trial q_words q_draft q_latest q_arg1 q_arg1_bytes c_length c_drafted c_latestEntries c_latestStrokes c_latestClear c_arg1_size a_arg1_bytes (upd a_words x3.toNatClampNeg (vp_nar .byte r25.toInt8.toInt32))) H := hP
          replace hD : va_D A (jw_Planner_take E q_this q_book q_prefixed q_glued q_joined q_trial q_words q_draft q_latest q_arg1 q_arg1_bytes c_length c_drafted c_latestEntries c_latestStrokes c_latestClear c_arg1_size a_arg1_bytes (upd a_words x3.toNatClampNeg (vp_nar .byte r25.toInt8.toInt32))) := hD
          refine lv_aload_n hx hb dX5_take_30 rfl (lv_at hl 0 rfl) ?_
          refine lv_dup hx hb dX5_take_31 rfl ?_
          refine va_get (D := E.1) (ci := 5) (v := .int c_length) (C := RX5) (T := TX5) (N := 13) hx hb hts hin5 hown hK.1 hP 0 rfl rfl 6 (by decide) hk_64 (fun _ h9 => h9) rfl dX5_take_32 ?_
          refine lv_iconst (v := 1) hx hb dX5_take_35 (by decide) ?_
          refine lv_iadd hx hb dX5_take_36 ?_
          refine va_put (D := E.1) (ci := 5) (v := .int (c_length + 1)) (ty := .int) (C := RX5) (T := TX5) (N := 13) hx hb hts hin5 tyX5 tyX5_ok nmX5 hown hK.1 hP hD hS 0 rfl rfl 6 (by decide) hk_64 (fun _ h9 => h9) rfl (by decide +kernel) rfl rfl (Nat.le_of_ble_eq_true rfl) dX5_take_37 (fun H locs hP hD hS => ?_)
          replace hP : va_P E.1 vwCl (jw_Planner_take E q_this q_book q_prefixed q_glued q_joined q_trial q_words q_draft q_latest q_arg1 q_arg1_bytes (c_length + 1) c_drafted c_latestEntries c_latestStrokes c_latestClear c_arg1_size a_arg1_bytes (upd a_words x3.toNatClampNeg (vp_nar .byte r25.toInt8.toInt32))) H := hP
          replace hD : va_D A (jw_Planner_take E q_this q_book q_prefixed q_glued q_joined q_trial q_words q_draft q_latest q_arg1 q_arg1_bytes (c_length + 1) c_drafted c_latestEntries c_latestStrokes c_latestClear c_arg1_size a_arg1_bytes (upd a_words x3.toNatClampNeg (vp_nar .byte r25.toInt8.toInt32))) := hD
          refine lv_iinc (v := (x3 + 1)) (lv' := [(3, .int (x3 + 1)), (0, .ref q_this), (1, .ref q_arg1), (2, .int x2)]) hx hb dX5_take_40 hl (k := 3) rfl rfl (by decide) rfl (fun ls hl => ?_)
          refine lv_goto (tgt := 7) hx hb dX5_take_43 (by decide) ?_
          exact ih (x3 + 1) (c_length + 1) (upd a_words x3.toNatClampNeg (vp_nar .byte r25.toInt8.toInt32)) _ _ _ h hP hD hS (lv_sub hl [1, 2, 3, 0] rfl)
  unfold jf_Planner_take at h
  refine lv_aload_n hx hb dX5_take_0 rfl (lv_at hl 0 rfl) ?_
  refine lv_iconst (v := 0) hx hb dX5_take_1 (by decide) ?_
  refine va_put (D := E.1) (ci := 5) (v := .int 0) (ty := .int) (C := RX5) (T := TX5) (N := 13) hx hb hts hin5 tyX5 tyX5_ok nmX5 hown hK.1 hP hD hS 0 rfl rfl 6 (by decide) hk_64 (fun _ h9 => h9) rfl (by decide +kernel) rfl rfl (Nat.le_of_ble_eq_true rfl) dX5_take_2 (fun H locs hP hD hS => ?_)
  replace hP : va_P E.1 vwCl (jw_Planner_take E q_this q_book q_prefixed q_glued q_joined q_trial q_words q_draft q_latest q_arg1 q_arg1_bytes 0 c_drafted c_latestEntries c_latestStrokes c_latestClear c_arg1_size a_arg1_bytes a_words) H := hP
  replace hD : va_D A (jw_Planner_take E q_this q_book q_prefixed q_glued q_joined q_trial q_words q_draft q_latest q_arg1 q_arg1_bytes 0 c_drafted c_latestEntries c_latestStrokes c_latestClear c_arg1_size a_arg1_bytes a_words) := hD
  refine lv_iconst (v := 0) hx hb dX5_take_5 (by decide) ?_
  refine lv_istore_n (lv' := [(3, .int 0), (0, .ref q_this), (1, .ref q_arg1), (2, .int x2)]) hx hb dX5_take_6 rfl hl (by decide) rfl (fun ls hl => ?_)
  exact kb7  N 0 0 a_words _ _ _ h hP hD hS (lv_sub hl [1, 2, 3, 0] rfl)
abbrev jw_Planner_tookWords (E : jE) (q_this q_book q_prefixed q_glued q_joined q_trial q_words q_draft q_latest : Nat) (c_length : Int32) (c_drafted : Int32) (c_latestEntries : Int32) (c_latestStrokes : Int32) (c_latestClear : Int32) (a_words : (Nat → Int32)) : va_W := [(q_this, .inr (5, [.ref q_book, .ref q_prefixed, .ref q_glued, .ref q_joined, .ref q_trial, .ref q_words, .int c_length, .ref q_draft, .int c_drafted, .ref q_latest, .int c_latestEntries, .int c_latestStrokes, .int c_latestClear])), (q_words, .inl (E.2.1, 60, .inl a_words))]
def jr_Planner_tookWords : Room := { frames := 1, cells := 0, slots := 0, locals := 20 }
set_option maxHeartbeats 4000000 in
set_option maxRecDepth 100000 in
theorem jc_Planner_tookWords (l : Launch) (E : jE) (q_this q_book q_prefixed q_glued q_joined q_trial q_words q_draft q_latest : Nat) (c_length : Int32) (c_drafted : Int32) (c_latestEntries : Int32) (c_latestStrokes : Int32) (c_latestClear : Int32) (a_words : (Nat → Int32)) (N : Nat) {T : Int32} (h : jf_Planner_tookWords N c_length a_words = some T) : jMi l yX5_tookWords wsX5_tookWords jr_Planner_tookWords E [.ref q_this] (jw_Planner_tookWords E q_this q_book q_prefixed q_glued q_joined q_trial q_words q_draft q_latest c_length c_drafted c_latestEntries c_latestStrokes c_latestClear a_words) (T) (jw_Planner_tookWords E q_this q_book q_prefixed q_glued q_joined q_trial q_words q_draft q_latest c_length c_drafted c_latestEntries c_latestStrokes c_latestClear a_words) := by
  refine jMi.begin (cc := cX5_tookWords) (maxL := 4) (ret := (some .boolean)) (by decide) rfl (Nat.le_of_ble_eq_true rfl) ?_
  intro p e s m args below meth c A ls Q hQ hx hb hr hml hown hlocks hts hK hA hP hD hS hl
  replace hown : s.vm.findClass RX5 = some m.cls := hown
  replace hl : lv_has ls 4 [(0, .ref q_this)] := hl
  have hin5 : ∀ w ∈ u_ws RX5 TX5 13, w ∈ wsX5_tookWords := by decide +kernel
  have hk_9 := hts (.fieldLink RX5 9 "StenoRoom$Planner" "words" "[B") (by decide +kernel)
  have hk_64 := hts (.fieldLink RX5 64 "StenoRoom$Planner" "length" "I") (by decide +kernel)
  have kb63 : ∀ (k4 : Int32 → Int32 → Option (Int32)) (hk4 : ∀ (x1 : Int32) (x2 : Int32) (H : Heap) (locs : List Loc) (ls : Array Slot), k4 x1 x2 = some T → va_P E.1 vwCl (jw_Planner_tookWords E q_this q_book q_prefixed q_glued q_joined q_trial q_words q_draft q_latest c_length c_drafted c_latestEntries c_latestStrokes c_latestClear a_words) H → va_D A (jw_Planner_tookWords E q_this q_book q_prefixed q_glued q_joined q_trial q_words q_draft q_latest c_length c_drafted c_latestEntries c_latestStrokes c_latestClear a_words) → va_S A s.heap H locs → lv_has ls 4 [(0, .ref q_this), (1, .int x1), (2, .int x2)] → W p l e jr_Planner_tookWords s m args below meth c H locs 0 0 Q (F0 m 4 ls [])) (x2 : Int32) (z0 : Int32) (H : Heap) (locs : List Loc) (ls : Array Slot), jf_Planner_tookWords_b63 k4 x2 z0 = some T → va_P E.1 vwCl (jw_Planner_tookWords E q_this q_book q_prefixed q_glued q_joined q_trial q_words q_draft q_latest c_length c_drafted c_latestEntries c_latestStrokes c_latestClear a_words) H → va_D A (jw_Planner_tookWords E q_this q_book q_prefixed q_glued q_joined q_trial q_words q_draft q_latest c_length c_drafted c_latestEntries c_latestStrokes c_latestClear a_words) → va_S A s.heap H locs → lv_has ls 4 [(0, .ref q_this), (2, .int x2)] → W p l e jr_Planner_tookWords s m args below meth c H locs 0 0 Q (F0 m 63 ls [.int z0]) := by
    intro k4 hk4 x2 z0 H locs ls h hP hD hS hl
    unfold jf_Planner_tookWords_b63 at h
    refine lv_istore_n (lv' := [(1, .int z0), (0, .ref q_this), (2, .int x2)]) hx hb dX5_tookWords_63 rfl hl (by decide) rfl (fun ls hl => ?_)
    refine lv_iinc (v := (x2 + 1)) (lv' := [(2, .int (x2 + 1)), (1, .int z0), (0, .ref q_this)]) hx hb dX5_tookWords_64 hl (k := 2) rfl rfl (by decide) rfl (fun ls hl => ?_)
    refine lv_goto (tgt := 4) hx hb dX5_tookWords_67 (by decide) ?_
    exact hk4 z0 (x2 + 1) _ _ _ h hP hD hS (lv_sub hl [2, 1, 0] rfl)
  have kb54 : ∀ (k4 : Int32 → Int32 → Option (Int32)) (hk4 : ∀ (x1 : Int32) (x2 : Int32) (H : Heap) (locs : List Loc) (ls : Array Slot), k4 x1 x2 = some T → va_P E.1 vwCl (jw_Planner_tookWords E q_this q_book q_prefixed q_glued q_joined q_trial q_words q_draft q_latest c_length c_drafted c_latestEntries c_latestStrokes c_latestClear a_words) H → va_D A (jw_Planner_tookWords E q_this q_book q_prefixed q_glued q_joined q_trial q_words q_draft q_latest c_length c_drafted c_latestEntries c_latestStrokes c_latestClear a_words) → va_S A s.heap H locs → lv_has ls 4 [(0, .ref q_this), (1, .int x1), (2, .int x2)] → W p l e jr_Planner_tookWords s m args below meth c H locs 0 0 Q (F0 m 4 ls [])) (x2 : Int32) (x3 : Int32) (H : Heap) (locs : List Loc) (ls : Array Slot), jf_Planner_tookWords_b54 k4 x2 x3 = some T → va_P E.1 vwCl (jw_Planner_tookWords E q_this q_book q_prefixed q_glued q_joined q_trial q_words q_draft q_latest c_length c_drafted c_latestEntries c_latestStrokes c_latestClear a_words) H → va_D A (jw_Planner_tookWords E q_this q_book q_prefixed q_glued q_joined q_trial q_words q_draft q_latest c_length c_drafted c_latestEntries c_latestStrokes c_latestClear a_words) → va_S A s.heap H locs → lv_has ls 4 [(0, .ref q_this), (2, .int x2), (3, .int x3)] → W p l e jr_Planner_tookWords s m args below meth c H locs 0 0 Q (F0 m 54 ls []) := by
    intro k4 hk4 x2 x3 H locs ls h hP hD hS hl
    unfold jf_Planner_tookWords_b54 at h
    refine lv_iload_n hx hb dX5_tookWords_54 rfl (lv_at hl 2 rfl) ?_
    refine lv_if_ne (tgt := 62) hx hb dX5_tookWords_55 (by decide) (fun hq55 => ?_) (fun hq55 => ?_)
    · replace h := jif_f hq55 h
      refine lv_iconst (v := 0) hx hb dX5_tookWords_62 (by decide) ?_
      exact kb63 k4 hk4  x2 0 _ _ _ h hP hD hS (lv_sub hl [0, 1] rfl)
    · replace h := jif_t hq55 h
      refine lv_iconst (v := 1) hx hb dX5_tookWords_58 (by decide) ?_
      refine lv_goto (tgt := 63) hx hb dX5_tookWords_59 (by decide) ?_
      exact kb63 k4 hk4  x2 1 _ _ _ h hP hD hS (lv_sub hl [0, 1] rfl)
  have kb28 : ∀ (k4 : Int32 → Int32 → Option (Int32)) (hk4 : ∀ (x1 : Int32) (x2 : Int32) (H : Heap) (locs : List Loc) (ls : Array Slot), k4 x1 x2 = some T → va_P E.1 vwCl (jw_Planner_tookWords E q_this q_book q_prefixed q_glued q_joined q_trial q_words q_draft q_latest c_length c_drafted c_latestEntries c_latestStrokes c_latestClear a_words) H → va_D A (jw_Planner_tookWords E q_this q_book q_prefixed q_glued q_joined q_trial q_words q_draft q_latest c_length c_drafted c_latestEntries c_latestStrokes c_latestClear a_words) → va_S A s.heap H locs → lv_has ls 4 [(0, .ref q_this), (1, .int x1), (2, .int x2)] → W p l e jr_Planner_tookWords s m args below meth c H locs 0 0 Q (F0 m 4 ls [])) (x1 : Int32) (x2 : Int32) (z0 : Int32) (H : Heap) (locs : List Loc) (ls : Array Slot), jf_Planner_tookWords_b28 a_words k4 x1 x2 z0 = some T → va_P E.1 vwCl (jw_Planner_tookWords E q_this q_book q_prefixed q_glued q_joined q_trial q_words q_draft q_latest c_length c_drafted c_latestEntries c_latestStrokes c_latestClear a_words) H → va_D A (jw_Planner_tookWords E q_this q_book q_prefixed q_glued q_joined q_trial q_words q_draft q_latest c_length c_drafted c_latestEntries c_latestStrokes c_latestClear a_words) → va_S A s.heap H locs → lv_has ls 4 [(0, .ref q_this), (1, .int x1), (2, .int x2)] → W p l e jr_Planner_tookWords s m args below meth c H locs 0 0 Q (F0 m 28 ls [.int z0]) := by
    intro k4 hk4 x1 x2 z0 H locs ls h hP hD hS hl
    unfold jf_Planner_tookWords_b28 at h
    refine lv_istore_n (lv' := [(3, .int z0), (0, .ref q_this), (1, .int x1), (2, .int x2)]) hx hb dX5_tookWords_28 rfl hl (by decide) rfl (fun ls hl => ?_)
    refine lv_iload_n hx hb dX5_tookWords_29 rfl (lv_at hl 0 rfl) ?_
    refine lv_if_eq (tgt := 40) hx hb dX5_tookWords_30 (by decide) (fun hq30 => ?_) (fun hq30 => ?_)
    · replace h := jif_t hq30 h
      refine lv_aload_n hx hb dX5_tookWords_40 rfl (lv_at hl 1 rfl) ?_
      refine va_get (D := E.1) (ci := 5) (v := .ref q_words) (C := RX5) (T := TX5) (N := 13) hx hb hts hin5 hown hK.1 hP 0 rfl rfl 5 (by decide) hk_9 (fun _ h9 => h9) rfl dX5_tookWords_41 ?_
      refine lv_iload_n hx hb dX5_tookWords_44 rfl (lv_at hl 3 rfl) ?_
      obtain ⟨g45, h⟩ := jga_e h
      refine va_bald hx hb hK.1 hP 1 0 rfl rfl g45 dX5_tookWords_45 ?_
      obtain ⟨r46, hf46, h⟩ := jbd h
      refine j_callNi (own := RX5) (As := [.int (a_words x2.toNatClampNeg)]) (rest := []) hx hb hml hown hts hK hA hP hD hS (jc_Room_isSmall l E (a_words x2.toNatClampNeg) N hf46) gX5_tookWords_X10_isSmall_n73 (by decide +kernel) (by decide +kernel) (by decide +kernel) rfl ⟨rfl, rfl⟩ 1 (by decide +kernel) rfl rfl [] [0, 1] [0, 1] rfl rfl rfl rfl rfl rfl rfl hl.1 rfl rfl dX5_tookWords_46 (fun H locs hP hD hS => ?_)
      replace hP : va_P E.1 vwCl (jw_Planner_tookWords E q_this q_book q_prefixed q_glued q_joined q_trial q_words q_draft q_latest c_length c_drafted c_latestEntries c_latestStrokes c_latestClear a_words) H := hP
      replace hD : va_D A (jw_Planner_tookWords E q_this q_book q_prefixed q_glued q_joined q_trial q_words q_draft q_latest c_length c_drafted c_latestEntries c_latestStrokes c_latestClear a_words) := hD
      refine lv_if_ne (tgt := 54) hx hb dX5_tookWords_49 (by decide) (fun hq49 => ?_) (fun hq49 => ?_)
      · replace h := jif_f hq49 h
        exact kb54 k4 hk4  x2 z0 _ _ _ h hP hD hS (lv_sub hl [1, 3, 0] rfl)
      · replace h := jif_t hq49 h
        refine lv_iconst (v := 0) hx hb dX5_tookWords_52 (by decide) ?_
        exact j_iret (u := 0) (rv := (fun T => T)) (wv := (fun _ => (jw_Planner_tookWords E q_this q_book q_prefixed q_glued q_joined q_trial q_words q_draft q_latest c_length c_drafted c_latestEntries c_latestStrokes c_latestClear a_words))) h hQ hx hb hr jb_0 hlocks hS hP hD dX5_tookWords_53
    · replace h := jif_f hq30 h
      refine lv_iload_n hx hb dX5_tookWords_33 rfl (lv_at hl 2 rfl) ?_
      refine lv_if_ne (tgt := 54) hx hb dX5_tookWords_34 (by decide) (fun hq34 => ?_) (fun hq34 => ?_)
      · replace h := jif_f hq34 h
        exact kb54 k4 hk4  x2 z0 _ _ _ h hP hD hS (lv_sub hl [1, 3, 0] rfl)
      · replace h := jif_t hq34 h
        refine lv_goto (tgt := 52) hx hb dX5_tookWords_37 (by decide) ?_
        refine lv_iconst (v := 0) hx hb dX5_tookWords_52 (by decide) ?_
        exact j_iret (u := 0) (rv := (fun T => T)) (wv := (fun _ => (jw_Planner_tookWords E q_this q_book q_prefixed q_glued q_joined q_trial q_words q_draft q_latest c_length c_drafted c_latestEntries c_latestStrokes c_latestClear a_words))) h hQ hx hb hr jb_0 hlocks hS hP hD dX5_tookWords_53
  have kb4 : ∀ (n : Nat) (x1 : Int32) (x2 : Int32) (H : Heap) (locs : List Loc) (ls : Array Slot), jf_Planner_tookWords_b4 c_length a_words n x1 x2 = some T → va_P E.1 vwCl (jw_Planner_tookWords E q_this q_book q_prefixed q_glued q_joined q_trial q_words q_draft q_latest c_length c_drafted c_latestEntries c_latestStrokes c_latestClear a_words) H → va_D A (jw_Planner_tookWords E q_this q_book q_prefixed q_glued q_joined q_trial q_words q_draft q_latest c_length c_drafted c_latestEntries c_latestStrokes c_latestClear a_words) → va_S A s.heap H locs → lv_has ls 4 [(0, .ref q_this), (1, .int x1), (2, .int x2)] → W p l e jr_Planner_tookWords s m args below meth c H locs 0 0 Q (F0 m 4 ls []) := by
    intro n
    induction n with
    | zero => intro x1 x2 H locs ls h; exact j_none (α := Int32) h
    | succ n ih =>
      intro x1 x2 H locs ls h hP hD hS hl
      rw [jf_Planner_tookWords_b4] at h
      refine lv_iload_n hx hb dX5_tookWords_4 rfl (lv_at hl 2 rfl) ?_
      refine lv_aload_n hx hb dX5_tookWords_5 rfl (lv_at hl 0 rfl) ?_
      refine va_get (D := E.1) (ci := 5) (v := .int c_length) (C := RX5) (T := TX5) (N := 13) hx hb hts hin5 hown hK.1 hP 0 rfl rfl 6 (by decide) hk_64 (fun _ h9 => h9) rfl dX5_tookWords_6 ?_
      refine lv_icmp_ge (tgt := 70) hx hb dX5_tookWords_9 (by decide) (fun hq9 => ?_) (fun hq9 => ?_)
      · replace h := jif_t hq9 h
        refine lv_iload_n hx hb dX5_tookWords_70 rfl (lv_at hl 1 rfl) ?_
        obtain ⟨hz71, h⟩ := jgb_e h
        exact j_iret (u := x1) (rv := (fun T => T)) (wv := (fun _ => (jw_Planner_tookWords E q_this q_book q_prefixed q_glued q_joined q_trial q_words q_draft q_latest c_length c_drafted c_latestEntries c_latestStrokes c_latestClear a_words))) h hQ hx hb hr hz71 hlocks hS hP hD dX5_tookWords_71
      · replace h := jif_f hq9 h
        refine lv_aload_n hx hb dX5_tookWords_12 rfl (lv_at hl 0 rfl) ?_
        refine va_get (D := E.1) (ci := 5) (v := .ref q_words) (C := RX5) (T := TX5) (N := 13) hx hb hts hin5 hown hK.1 hP 0 rfl rfl 5 (by decide) hk_9 (fun _ h9 => h9) rfl dX5_tookWords_13 ?_
        refine lv_iload_n hx hb dX5_tookWords_16 rfl (lv_at hl 2 rfl) ?_
        obtain ⟨g17, h⟩ := jga_e h
        refine va_bald hx hb hK.1 hP 1 0 rfl rfl g17 dX5_tookWords_17 ?_
        refine lv_bipush (v := 32) hx hb dX5_tookWords_18 (by decide) ?_
        refine lv_icmp_ne (tgt := 27) hx hb dX5_tookWords_20 (by decide) (fun hq20 => ?_) (fun hq20 => ?_)
        · replace h := jif_f hq20 h
          refine lv_iconst (v := 0) hx hb dX5_tookWords_27 (by decide) ?_
          exact kb28 (jf_Planner_tookWords_b4 c_length a_words n) ih  x1 x2 0 _ _ _ h hP hD hS (lv_sub hl [0, 1, 2] rfl)
        · replace h := jif_t hq20 h
          refine lv_iconst (v := 1) hx hb dX5_tookWords_23 (by decide) ?_
          refine lv_goto (tgt := 28) hx hb dX5_tookWords_24 (by decide) ?_
          exact kb28 (jf_Planner_tookWords_b4 c_length a_words n) ih  x1 x2 1 _ _ _ h hP hD hS (lv_sub hl [0, 1, 2] rfl)
  unfold jf_Planner_tookWords at h
  refine lv_iconst (v := 0) hx hb dX5_tookWords_0 (by decide) ?_
  refine lv_istore_n (lv' := [(1, .int 0), (0, .ref q_this)]) hx hb dX5_tookWords_1 rfl hl (by decide) rfl (fun ls hl => ?_)
  refine lv_iconst (v := 0) hx hb dX5_tookWords_2 (by decide) ?_
  refine lv_istore_n (lv' := [(2, .int 0), (1, .int 0), (0, .ref q_this)]) hx hb dX5_tookWords_3 rfl hl (by decide) rfl (fun ls hl => ?_)
  exact kb4  N 0 0 _ _ _ h hP hD hS (lv_sub hl [2, 1, 0] rfl)
abbrev jw_Reading_empty (E : jE) (q_this q_book q_keys q_firsts q_entries : Nat) (c_size : Int32) (c_readSoFar : Int32) : va_W := [(q_this, .inr (6, [.ref q_book, .ref q_keys, .ref q_firsts, .ref q_entries, .int c_size, .int c_readSoFar]))]
def jr_Reading_empty : Room := { frames := 0, cells := 0, slots := 0, locals := 0 }
set_option maxHeartbeats 4000000 in
set_option maxRecDepth 100000 in
theorem jc_Reading_empty (l : Launch) (E : jE) (q_this q_book q_keys q_firsts q_entries : Nat) (c_size : Int32) (c_readSoFar : Int32) (N : Nat) {T : Int32 × Int32} (h : jf_Reading_empty c_size c_readSoFar = some T) : jMv l yX6_empty wsX6_empty jr_Reading_empty E [.ref q_this] (jw_Reading_empty E q_this q_book q_keys q_firsts q_entries c_size c_readSoFar) (jw_Reading_empty E q_this q_book q_keys q_firsts q_entries T.1 T.2) := by
  refine jMv.begin (cc := cX6_empty) (maxL := 1) (ret := none) (by decide) rfl (Nat.le_of_ble_eq_true rfl) ?_
  intro p e s m args below meth c A ls Q hQ hx hb hr hml hown hlocks hts hK hA hP hD hS hl
  replace hown : s.vm.findClass RX6 = some m.cls := hown
  replace hl : lv_has ls 1 [(0, .ref q_this)] := hl
  have hin6 : ∀ w ∈ u_ws RX6 TX6 6, w ∈ wsX6_empty := by decide +kernel
  have hk_25 := hts (.fieldLink RX6 25 "StenoRoom$Reading" "size" "I") (by decide +kernel)
  have hk_29 := hts (.fieldLink RX6 29 "StenoRoom$Reading" "readSoFar" "I") (by decide +kernel)
  unfold jf_Reading_empty at h
  refine lv_aload_n hx hb dX6_empty_0 rfl (lv_at hl 0 rfl) ?_
  refine lv_iconst (v := 0) hx hb dX6_empty_1 (by decide) ?_
  refine va_put (D := E.1) (ci := 6) (v := .int 0) (ty := .int) (C := RX6) (T := TX6) (N := 6) hx hb hts hin6 tyX6 tyX6_ok nmX6 hown hK.1 hP hD hS 0 rfl rfl 4 (by decide) hk_25 (fun _ h9 => h9) rfl (by decide +kernel) rfl rfl (Nat.le_of_ble_eq_true rfl) dX6_empty_2 (fun H locs hP hD hS => ?_)
  replace hP : va_P E.1 vwCl (jw_Reading_empty E q_this q_book q_keys q_firsts q_entries 0 c_readSoFar) H := hP
  replace hD : va_D A (jw_Reading_empty E q_this q_book q_keys q_firsts q_entries 0 c_readSoFar) := hD
  refine lv_aload_n hx hb dX6_empty_5 rfl (lv_at hl 0 rfl) ?_
  refine lv_iconst (v := 0) hx hb dX6_empty_6 (by decide) ?_
  refine va_put (D := E.1) (ci := 6) (v := .int 0) (ty := .int) (C := RX6) (T := TX6) (N := 6) hx hb hts hin6 tyX6 tyX6_ok nmX6 hown hK.1 hP hD hS 0 rfl rfl 5 (by decide) hk_29 (fun _ h9 => h9) rfl (by decide +kernel) rfl rfl (Nat.le_of_ble_eq_true rfl) dX6_empty_7 (fun H locs hP hD hS => ?_)
  replace hP : va_P E.1 vwCl (jw_Reading_empty E q_this q_book q_keys q_firsts q_entries 0 0) H := hP
  replace hD : va_D A (jw_Reading_empty E q_this q_book q_keys q_firsts q_entries 0 0) := hD
  exact j_vret (u := (0, 0)) (wv := (fun T => (jw_Reading_empty E q_this q_book q_keys q_firsts q_entries T.1 T.2))) h hQ hx hb hr hlocks hS hP hD dX6_empty_10
abbrev jw_Book_strokeAt (E : jE) (q_this q_kinds q_strokeCounts q_strokes q_lengths q_letters : Nat) (c_size : Int32) (a_strokeCounts : (Nat → Int32)) (a_strokes : (Nat → Int32)) : va_W := [(q_this, .inr (0, [.ref q_kinds, .ref q_strokeCounts, .ref q_strokes, .ref q_lengths, .ref q_letters, .int c_size])), (q_strokeCounts, .inl (E.2.2.1, 60, .inl a_strokeCounts)), (q_strokes, .inl (E.2.2.1, 300, .inl a_strokes))]
def jr_Book_strokeAt : Room := { frames := 0, cells := 0, slots := 0, locals := 0 }
set_option maxHeartbeats 4000000 in
set_option maxRecDepth 100000 in
theorem jc_Book_strokeAt (l : Launch) (E : jE) (q_this q_kinds q_strokeCounts q_strokes q_lengths q_letters : Nat) (c_size : Int32) (a_strokeCounts : (Nat → Int32)) (a_strokes : (Nat → Int32)) (x1 : Int32) (x2 : Int32) (N : Nat) {T : Int32} (h : jf_Book_strokeAt x1 x2 c_size a_strokeCounts a_strokes = some T) : jMi l yX0_strokeAt wsX0_strokeAt jr_Book_strokeAt E [.ref q_this, .int x1, .int x2] (jw_Book_strokeAt E q_this q_kinds q_strokeCounts q_strokes q_lengths q_letters c_size a_strokeCounts a_strokes) (T) (jw_Book_strokeAt E q_this q_kinds q_strokeCounts q_strokes q_lengths q_letters c_size a_strokeCounts a_strokes) := by
  refine jMi.begin (cc := cX0_strokeAt) (maxL := 4) (ret := (some .int)) (by decide) rfl (Nat.le_of_ble_eq_true rfl) ?_
  intro p e s m args below meth c A ls Q hQ hx hb hr hml hown hlocks hts hK hA hP hD hS hl
  replace hown : s.vm.findClass RX0 = some m.cls := hown
  replace hl : lv_has ls 4 [(0, .ref q_this), (1, .int x1), (2, .int x2)] := hl
  have hin0 : ∀ w ∈ u_ws RX0 TX0 6, w ∈ wsX0_strokeAt := by decide +kernel
  have hk_15 := hts (.fieldLink RX0 15 "StenoRoom$Book" "strokeCounts" "[I") (by decide +kernel)
  have hk_18 := hts (.fieldLink RX0 18 "StenoRoom$Book" "strokes" "[I") (by decide +kernel)
  have hk_32 := hts (.fieldLink RX0 32 "StenoRoom$Book" "size" "I") (by decide +kernel)
  have kb31 : ∀ (z0 : Int32) (H : Heap) (locs : List Loc) (ls : Array Slot), jf_Book_strokeAt_b31 x1 x2 a_strokes z0 = some T → va_P E.1 vwCl (jw_Book_strokeAt E q_this q_kinds q_strokeCounts q_strokes q_lengths q_letters c_size a_strokeCounts a_strokes) H → va_D A (jw_Book_strokeAt E q_this q_kinds q_strokeCounts q_strokes q_lengths q_letters c_size a_strokeCounts a_strokes) → va_S A s.heap H locs → lv_has ls 4 [(0, .ref q_this), (1, .int x1), (2, .int x2)] → W p l e jr_Book_strokeAt s m args below meth c H locs 0 0 Q (F0 m 31 ls [.int z0]) := by
    intro  z0 H locs ls h hP hD hS hl
    unfold jf_Book_strokeAt_b31 at h
    refine lv_istore_n (lv' := [(3, .int z0), (0, .ref q_this), (1, .int x1), (2, .int x2)]) hx hb dX0_strokeAt_31 rfl hl (by decide) rfl (fun ls hl => ?_)
    refine lv_iload_n hx hb dX0_strokeAt_32 rfl (lv_at hl 0 rfl) ?_
    refine lv_if_eq (tgt := 49) hx hb dX0_strokeAt_33 (by decide) (fun hq33 => ?_) (fun hq33 => ?_)
    · replace h := jif_t hq33 h
      refine lv_iconst (v := (-1)) hx hb dX0_strokeAt_49 (by decide) ?_
      exact j_iret (u := (-1)) (rv := (fun T => T)) (wv := (fun _ => (jw_Book_strokeAt E q_this q_kinds q_strokeCounts q_strokes q_lengths q_letters c_size a_strokeCounts a_strokes))) h hQ hx hb hr rfl hlocks hS hP hD dX0_strokeAt_50
    · replace h := jif_f hq33 h
      refine lv_aload_n hx hb dX0_strokeAt_36 rfl (lv_at hl 1 rfl) ?_
      refine va_get (D := E.1) (ci := 0) (v := .ref q_strokes) (C := RX0) (T := TX0) (N := 6) hx hb hts hin0 hown hK.1 hP 0 rfl rfl 2 (by decide) hk_18 (fun _ h9 => h9) rfl dX0_strokeAt_37 ?_
      refine lv_iload_n hx hb dX0_strokeAt_40 rfl (lv_at hl 2 rfl) ?_
      refine lv_iconst (v := 5) hx hb dX0_strokeAt_41 (by decide) ?_
      refine lv_imul hx hb dX0_strokeAt_42 ?_
      refine lv_iload_n hx hb dX0_strokeAt_43 rfl (lv_at hl 3 rfl) ?_
      refine lv_iadd hx hb dX0_strokeAt_44 ?_
      obtain ⟨g45, h⟩ := jga_e h
      refine va_iald hx hb hK.1 hP 2 1 rfl rfl g45 dX0_strokeAt_45 ?_
      refine lv_goto (tgt := 50) hx hb dX0_strokeAt_46 (by decide) ?_
      exact j_iret (u := (a_strokes ((x1 * 5) + x2).toNatClampNeg)) (rv := (fun T => T)) (wv := (fun _ => (jw_Book_strokeAt E q_this q_kinds q_strokeCounts q_strokes q_lengths q_letters c_size a_strokeCounts a_strokes))) h hQ hx hb hr rfl hlocks hS hP hD dX0_strokeAt_50
  have kb30 : ∀ (H : Heap) (locs : List Loc) (ls : Array Slot), jf_Book_strokeAt_b30 x1 x2 a_strokes = some T → va_P E.1 vwCl (jw_Book_strokeAt E q_this q_kinds q_strokeCounts q_strokes q_lengths q_letters c_size a_strokeCounts a_strokes) H → va_D A (jw_Book_strokeAt E q_this q_kinds q_strokeCounts q_strokes q_lengths q_letters c_size a_strokeCounts a_strokes) → va_S A s.heap H locs → lv_has ls 4 [(0, .ref q_this), (1, .int x1), (2, .int x2)] → W p l e jr_Book_strokeAt s m args below meth c H locs 0 0 Q (F0 m 30 ls []) := by
    intro   H locs ls h hP hD hS hl
    unfold jf_Book_strokeAt_b30 at h
    refine lv_iconst (v := 0) hx hb dX0_strokeAt_30 (by decide) ?_
    exact kb31   0 _ _ _ h hP hD hS (lv_sub hl [0, 1, 2] rfl)
  unfold jf_Book_strokeAt at h
  refine lv_iload_n hx hb dX0_strokeAt_0 rfl (lv_at hl 1 rfl) ?_
  refine lv_if_lt (tgt := 30) hx hb dX0_strokeAt_1 (by decide) (fun hq1 => ?_) (fun hq1 => ?_)
  · replace h := jif_t hq1 h
    exact kb30    _ _ _ h hP hD hS (lv_sub hl [0, 1, 2] rfl)
  · replace h := jif_f hq1 h
    refine lv_iload_n hx hb dX0_strokeAt_4 rfl (lv_at hl 1 rfl) ?_
    refine lv_aload_n hx hb dX0_strokeAt_5 rfl (lv_at hl 0 rfl) ?_
    refine va_get (D := E.1) (ci := 0) (v := .int c_size) (C := RX0) (T := TX0) (N := 6) hx hb hts hin0 hown hK.1 hP 0 rfl rfl 5 (by decide) hk_32 (fun _ h9 => h9) rfl dX0_strokeAt_6 ?_
    refine lv_icmp_ge (tgt := 30) hx hb dX0_strokeAt_9 (by decide) (fun hq9 => ?_) (fun hq9 => ?_)
    · replace h := jif_t hq9 h
      exact kb30    _ _ _ h hP hD hS (lv_sub hl [0, 1, 2] rfl)
    · replace h := jif_f hq9 h
      refine lv_iload_n hx hb dX0_strokeAt_12 rfl (lv_at hl 2 rfl) ?_
      refine lv_if_lt (tgt := 30) hx hb dX0_strokeAt_13 (by decide) (fun hq13 => ?_) (fun hq13 => ?_)
      · replace h := jif_t hq13 h
        exact kb30    _ _ _ h hP hD hS (lv_sub hl [0, 1, 2] rfl)
      · replace h := jif_f hq13 h
        refine lv_iload_n hx hb dX0_strokeAt_16 rfl (lv_at hl 2 rfl) ?_
        refine lv_aload_n hx hb dX0_strokeAt_17 rfl (lv_at hl 0 rfl) ?_
        refine va_get (D := E.1) (ci := 0) (v := .ref q_strokeCounts) (C := RX0) (T := TX0) (N := 6) hx hb hts hin0 hown hK.1 hP 0 rfl rfl 1 (by decide) hk_15 (fun _ h9 => h9) rfl dX0_strokeAt_18 ?_
        refine lv_iload_n hx hb dX0_strokeAt_21 rfl (lv_at hl 1 rfl) ?_
        obtain ⟨g22, h⟩ := jga_e h
        refine va_iald hx hb hK.1 hP 1 1 rfl rfl g22 dX0_strokeAt_22 ?_
        refine lv_icmp_ge (tgt := 30) hx hb dX0_strokeAt_23 (by decide) (fun hq23 => ?_) (fun hq23 => ?_)
        · replace h := jif_t hq23 h
          exact kb30    _ _ _ h hP hD hS (lv_sub hl [0, 1, 2] rfl)
        · replace h := jif_f hq23 h
          refine lv_iconst (v := 1) hx hb dX0_strokeAt_26 (by decide) ?_
          refine lv_goto (tgt := 31) hx hb dX0_strokeAt_27 (by decide) ?_
          exact kb31   1 _ _ _ h hP hD hS (lv_sub hl [0, 1, 2] rfl)
abbrev jw_Planner_readDraft (E : jE) (q_this q_book q_prefixed q_glued q_joined q_trial q_words q_draft q_latest q_book_kinds q_book_strokeCounts q_book_strokes q_book_lengths q_book_letters q_trial_keys q_trial_firsts q_trial_entries : Nat) (c_length : Int32) (c_drafted : Int32) (c_latestEntries : Int32) (c_latestStrokes : Int32) (c_latestClear : Int32) (c_book_size : Int32) (c_trial_size : Int32) (c_trial_readSoFar : Int32) (a_book_strokeCounts : (Nat → Int32)) (a_book_strokes : (Nat → Int32)) (a_draft : (Nat → Int32)) (a_trial_entries : (Nat → Int32)) (a_trial_firsts : (Nat → Int32)) (a_trial_keys : (Nat → Int32)) : va_W := [(q_this, .inr (5, [.ref q_book, .ref q_prefixed, .ref q_glued, .ref q_joined, .ref q_trial, .ref q_words, .int c_length, .ref q_draft, .int c_drafted, .ref q_latest, .int c_latestEntries, .int c_latestStrokes, .int c_latestClear])), (q_book, .inr (0, [.ref q_book_kinds, .ref q_book_strokeCounts, .ref q_book_strokes, .ref q_book_lengths, .ref q_book_letters, .int c_book_size])), (q_trial, .inr (6, [.ref q_book, .ref q_trial_keys, .ref q_trial_firsts, .ref q_trial_entries, .int c_trial_size, .int c_trial_readSoFar])), (q_book_strokeCounts, .inl (E.2.2.1, 60, .inl a_book_strokeCounts)), (q_book_strokes, .inl (E.2.2.1, 300, .inl a_book_strokes)), (q_draft, .inl (E.2.2.1, 60, .inl a_draft)), (q_trial_entries, .inl (E.2.2.1, 300, .inl a_trial_entries)), (q_trial_firsts, .inl (E.2.2.1, 300, .inl a_trial_firsts)), (q_trial_keys, .inl (E.2.2.1, 300, .inl a_trial_keys))]
def jr_Planner_readDraft : Room := { frames := 4, cells := 0, slots := 0, locals := 94 }
set_option maxHeartbeats 4000000 in
set_option maxRecDepth 100000 in
theorem jc_Planner_readDraft (l : Launch) (E : jE) (q_this q_book q_prefixed q_glued q_joined q_trial q_words q_draft q_latest q_book_kinds q_book_strokeCounts q_book_strokes q_book_lengths q_book_letters q_trial_keys q_trial_firsts q_trial_entries : Nat) (c_length : Int32) (c_drafted : Int32) (c_latestEntries : Int32) (c_latestStrokes : Int32) (c_latestClear : Int32) (c_book_size : Int32) (c_trial_size : Int32) (c_trial_readSoFar : Int32) (a_book_strokeCounts : (Nat → Int32)) (a_book_strokes : (Nat → Int32)) (a_draft : (Nat → Int32)) (a_trial_entries : (Nat → Int32)) (a_trial_firsts : (Nat → Int32)) (a_trial_keys : (Nat → Int32)) (N : Nat) {T : Int32 × Int32 × (Nat → Int32) × (Nat → Int32) × (Nat → Int32)} (h : jf_Planner_readDraft N c_drafted c_book_size a_book_strokeCounts a_book_strokes a_draft c_trial_size c_trial_readSoFar a_trial_entries a_trial_firsts a_trial_keys = some T) : jMv l yX5_readDraft wsX5_readDraft jr_Planner_readDraft E [.ref q_this] (jw_Planner_readDraft E q_this q_book q_prefixed q_glued q_joined q_trial q_words q_draft q_latest q_book_kinds q_book_strokeCounts q_book_strokes q_book_lengths q_book_letters q_trial_keys q_trial_firsts q_trial_entries c_length c_drafted c_latestEntries c_latestStrokes c_latestClear c_book_size c_trial_size c_trial_readSoFar a_book_strokeCounts a_book_strokes a_draft a_trial_entries a_trial_firsts a_trial_keys) (jw_Planner_readDraft E q_this q_book q_prefixed q_glued q_joined q_trial q_words q_draft q_latest q_book_kinds q_book_strokeCounts q_book_strokes q_book_lengths q_book_letters q_trial_keys q_trial_firsts q_trial_entries c_length c_drafted c_latestEntries c_latestStrokes c_latestClear c_book_size T.1 T.2.1 a_book_strokeCounts a_book_strokes a_draft T.2.2.1 T.2.2.2.1 T.2.2.2.2) := by
  refine jMv.begin (cc := cX5_readDraft) (maxL := 3) (ret := none) (by decide) rfl (Nat.le_of_ble_eq_true rfl) ?_
  intro p e s m args below meth c A ls Q hQ hx hb hr hml hown hlocks hts hK hA hP hD hS hl
  replace hown : s.vm.findClass RX5 = some m.cls := hown
  replace hl : lv_has ls 3 [(0, .ref q_this)] := hl
  have hin5 : ∀ w ∈ u_ws RX5 TX5 13, w ∈ wsX5_readDraft := by decide +kernel
  have hk_15 := hts (.fieldLink RX5 15 "StenoRoom$Planner" "draft" "[I") (by decide +kernel)
  have hk_26 := hts (.fieldLink RX5 26 "StenoRoom$Planner" "book" "LStenoRoom$Book;") (by decide +kernel)
  have hk_54 := hts (.fieldLink RX5 54 "StenoRoom$Planner" "trial" "LStenoRoom$Reading;") (by decide +kernel)
  have hk_77 := hts (.fieldLink RX5 77 "StenoRoom$Planner" "drafted" "I") (by decide +kernel)
  have kb76 : ∀ (c_trial_size : Int32) (c_trial_readSoFar : Int32) (a_trial_entries : (Nat → Int32)) (a_trial_firsts : (Nat → Int32)) (a_trial_keys : (Nat → Int32)) (H : Heap) (locs : List Loc) (ls : Array Slot), jf_Planner_readDraft_b76 N c_book_size a_book_strokeCounts a_book_strokes c_trial_size c_trial_readSoFar a_trial_entries a_trial_firsts a_trial_keys = some T → va_P E.1 vwCl (jw_Planner_readDraft E q_this q_book q_prefixed q_glued q_joined q_trial q_words q_draft q_latest q_book_kinds q_book_strokeCounts q_book_strokes q_book_lengths q_book_letters q_trial_keys q_trial_firsts q_trial_entries c_length c_drafted c_latestEntries c_latestStrokes c_latestClear c_book_size c_trial_size c_trial_readSoFar a_book_strokeCounts a_book_strokes a_draft a_trial_entries a_trial_firsts a_trial_keys) H → va_D A (jw_Planner_readDraft E q_this q_book q_prefixed q_glued q_joined q_trial q_words q_draft q_latest q_book_kinds q_book_strokeCounts q_book_strokes q_book_lengths q_book_letters q_trial_keys q_trial_firsts q_trial_entries c_length c_drafted c_latestEntries c_latestStrokes c_latestClear c_book_size c_trial_size c_trial_readSoFar a_book_strokeCounts a_book_strokes a_draft a_trial_entries a_trial_firsts a_trial_keys) → va_S A s.heap H locs → lv_has ls 3 [(0, .ref q_this)] → W p l e jr_Planner_readDraft s m args below meth c H locs 0 0 Q (F0 m 76 ls []) := by
    intro  c_trial_size c_trial_readSoFar a_trial_entries a_trial_firsts a_trial_keys H locs ls h hP hD hS hl
    unfold jf_Planner_readDraft_b76 at h
    refine lv_aload_n hx hb dX5_readDraft_76 rfl (lv_at hl 0 rfl) ?_
    refine va_get (D := E.1) (ci := 5) (v := .ref q_trial) (C := RX5) (T := TX5) (N := 13) hx hb hts hin5 hown hK.1 hP 0 rfl rfl 4 (by decide) hk_54 (fun _ h9 => h9) rfl dX5_readDraft_77 ?_
    obtain ⟨⟨c_trial_readSoFar_80, a_trial_entries_80, a_trial_firsts_80⟩, hf80, h⟩ := jbd h
    refine j_callVv (own := RX5) (As := []) (rest := []) hx hb hml hown hts hK hA hP hD hS (jc_Reading_read l E q_trial q_book q_trial_keys q_trial_firsts q_trial_entries q_book_kinds q_book_strokeCounts q_book_strokes q_book_lengths q_book_letters c_trial_size c_trial_readSoFar c_book_size a_book_strokeCounts a_book_strokes a_trial_entries a_trial_firsts a_trial_keys N hf80) gX5_readDraft_X6_read rfl ⟨rfl, rfl⟩ 0 (by decide +kernel) rfl rfl 2 6 rfl rfl [2, 1, 3, 4, 6, 7, 8] [0, 5] [0, 3, 2, 4, 5, 1, 6, 7, 8] rfl rfl rfl rfl rfl rfl rfl hl.1 rfl rfl dX5_readDraft_80 (fun H locs hP hD hS => ?_)
    replace hP : va_P E.1 vwCl (jw_Planner_readDraft E q_this q_book q_prefixed q_glued q_joined q_trial q_words q_draft q_latest q_book_kinds q_book_strokeCounts q_book_strokes q_book_lengths q_book_letters q_trial_keys q_trial_firsts q_trial_entries c_length c_drafted c_latestEntries c_latestStrokes c_latestClear c_book_size c_trial_size c_trial_readSoFar_80 a_book_strokeCounts a_book_strokes a_draft a_trial_entries_80 a_trial_firsts_80 a_trial_keys) H := hP
    replace hD : va_D A (jw_Planner_readDraft E q_this q_book q_prefixed q_glued q_joined q_trial q_words q_draft q_latest q_book_kinds q_book_strokeCounts q_book_strokes q_book_lengths q_book_letters q_trial_keys q_trial_firsts q_trial_entries c_length c_drafted c_latestEntries c_latestStrokes c_latestClear c_book_size c_trial_size c_trial_readSoFar_80 a_book_strokeCounts a_book_strokes a_draft a_trial_entries_80 a_trial_firsts_80 a_trial_keys) := hD
    exact j_vret (u := (c_trial_size, c_trial_readSoFar_80, a_trial_entries_80, a_trial_firsts_80, a_trial_keys)) (wv := (fun T => (jw_Planner_readDraft E q_this q_book q_prefixed q_glued q_joined q_trial q_words q_draft q_latest q_book_kinds q_book_strokeCounts q_book_strokes q_book_lengths q_book_letters q_trial_keys q_trial_firsts q_trial_entries c_length c_drafted c_latestEntries c_latestStrokes c_latestClear c_book_size T.1 T.2.1 a_book_strokeCounts a_book_strokes a_draft T.2.2.1 T.2.2.2.1 T.2.2.2.2))) h hQ hx hb hr hlocks hS hP hD dX5_readDraft_83
  have kb70 : ∀ (k9 : Int32 → Int32 → Int32 → (Nat → Int32) → (Nat → Int32) → (Nat → Int32) → Option (Int32 × Int32 × (Nat → Int32) × (Nat → Int32) × (Nat → Int32))) (hk9 : ∀ (x1 : Int32) (c_trial_size : Int32) (c_trial_readSoFar : Int32) (a_trial_entries : (Nat → Int32)) (a_trial_firsts : (Nat → Int32)) (a_trial_keys : (Nat → Int32)) (H : Heap) (locs : List Loc) (ls : Array Slot), k9 x1 c_trial_size c_trial_readSoFar a_trial_entries a_trial_firsts a_trial_keys = some T → va_P E.1 vwCl (jw_Planner_readDraft E q_this q_book q_prefixed q_glued q_joined q_trial q_words q_draft q_latest q_book_kinds q_book_strokeCounts q_book_strokes q_book_lengths q_book_letters q_trial_keys q_trial_firsts q_trial_entries c_length c_drafted c_latestEntries c_latestStrokes c_latestClear c_book_size c_trial_size c_trial_readSoFar a_book_strokeCounts a_book_strokes a_draft a_trial_entries a_trial_firsts a_trial_keys) H → va_D A (jw_Planner_readDraft E q_this q_book q_prefixed q_glued q_joined q_trial q_words q_draft q_latest q_book_kinds q_book_strokeCounts q_book_strokes q_book_lengths q_book_letters q_trial_keys q_trial_firsts q_trial_entries c_length c_drafted c_latestEntries c_latestStrokes c_latestClear c_book_size c_trial_size c_trial_readSoFar a_book_strokeCounts a_book_strokes a_draft a_trial_entries a_trial_firsts a_trial_keys) → va_S A s.heap H locs → lv_has ls 3 [(0, .ref q_this), (1, .int x1)] → W p l e jr_Planner_readDraft s m args below meth c H locs 0 0 Q (F0 m 9 ls [])) (x1 : Int32) (c_trial_size : Int32) (c_trial_readSoFar : Int32) (a_trial_entries : (Nat → Int32)) (a_trial_firsts : (Nat → Int32)) (a_trial_keys : (Nat → Int32)) (H : Heap) (locs : List Loc) (ls : Array Slot), jf_Planner_readDraft_b70 k9 x1 c_trial_size c_trial_readSoFar a_trial_entries a_trial_firsts a_trial_keys = some T → va_P E.1 vwCl (jw_Planner_readDraft E q_this q_book q_prefixed q_glued q_joined q_trial q_words q_draft q_latest q_book_kinds q_book_strokeCounts q_book_strokes q_book_lengths q_book_letters q_trial_keys q_trial_firsts q_trial_entries c_length c_drafted c_latestEntries c_latestStrokes c_latestClear c_book_size c_trial_size c_trial_readSoFar a_book_strokeCounts a_book_strokes a_draft a_trial_entries a_trial_firsts a_trial_keys) H → va_D A (jw_Planner_readDraft E q_this q_book q_prefixed q_glued q_joined q_trial q_words q_draft q_latest q_book_kinds q_book_strokeCounts q_book_strokes q_book_lengths q_book_letters q_trial_keys q_trial_firsts q_trial_entries c_length c_drafted c_latestEntries c_latestStrokes c_latestClear c_book_size c_trial_size c_trial_readSoFar a_book_strokeCounts a_book_strokes a_draft a_trial_entries a_trial_firsts a_trial_keys) → va_S A s.heap H locs → lv_has ls 3 [(0, .ref q_this), (1, .int x1)] → W p l e jr_Planner_readDraft s m args below meth c H locs 0 0 Q (F0 m 70 ls []) := by
    intro k9 hk9 x1 c_trial_size c_trial_readSoFar a_trial_entries a_trial_firsts a_trial_keys H locs ls h hP hD hS hl
    unfold jf_Planner_readDraft_b70 at h
    refine lv_iinc (v := (x1 + 1)) (lv' := [(1, .int (x1 + 1)), (0, .ref q_this)]) hx hb dX5_readDraft_70 hl (k := 1) rfl rfl (by decide) rfl (fun ls hl => ?_)
    refine lv_goto (tgt := 9) hx hb dX5_readDraft_73 (by decide) ?_
    exact hk9 (x1 + 1) c_trial_size c_trial_readSoFar a_trial_entries a_trial_firsts a_trial_keys _ _ _ h hP hD hS (lv_sub hl [1, 0] rfl)
  have kb19 : ∀ (k9 : Int32 → Int32 → Int32 → (Nat → Int32) → (Nat → Int32) → (Nat → Int32) → Option (Int32 × Int32 × (Nat → Int32) × (Nat → Int32) × (Nat → Int32))) (hk9 : ∀ (x1 : Int32) (c_trial_size : Int32) (c_trial_readSoFar : Int32) (a_trial_entries : (Nat → Int32)) (a_trial_firsts : (Nat → Int32)) (a_trial_keys : (Nat → Int32)) (H : Heap) (locs : List Loc) (ls : Array Slot), k9 x1 c_trial_size c_trial_readSoFar a_trial_entries a_trial_firsts a_trial_keys = some T → va_P E.1 vwCl (jw_Planner_readDraft E q_this q_book q_prefixed q_glued q_joined q_trial q_words q_draft q_latest q_book_kinds q_book_strokeCounts q_book_strokes q_book_lengths q_book_letters q_trial_keys q_trial_firsts q_trial_entries c_length c_drafted c_latestEntries c_latestStrokes c_latestClear c_book_size c_trial_size c_trial_readSoFar a_book_strokeCounts a_book_strokes a_draft a_trial_entries a_trial_firsts a_trial_keys) H → va_D A (jw_Planner_readDraft E q_this q_book q_prefixed q_glued q_joined q_trial q_words q_draft q_latest q_book_kinds q_book_strokeCounts q_book_strokes q_book_lengths q_book_letters q_trial_keys q_trial_firsts q_trial_entries c_length c_drafted c_latestEntries c_latestStrokes c_latestClear c_book_size c_trial_size c_trial_readSoFar a_book_strokeCounts a_book_strokes a_draft a_trial_entries a_trial_firsts a_trial_keys) → va_S A s.heap H locs → lv_has ls 3 [(0, .ref q_this), (1, .int x1)] → W p l e jr_Planner_readDraft s m args below meth c H locs 0 0 Q (F0 m 9 ls [])) (n : Nat) (x1 : Int32) (x2 : Int32) (c_trial_size : Int32) (c_trial_readSoFar : Int32) (a_trial_entries : (Nat → Int32)) (a_trial_firsts : (Nat → Int32)) (a_trial_keys : (Nat → Int32)) (H : Heap) (locs : List Loc) (ls : Array Slot), jf_Planner_readDraft_b19 c_book_size a_book_strokeCounts a_book_strokes a_draft k9 n x1 x2 c_trial_size c_trial_readSoFar a_trial_entries a_trial_firsts a_trial_keys = some T → va_P E.1 vwCl (jw_Planner_readDraft E q_this q_book q_prefixed q_glued q_joined q_trial q_words q_draft q_latest q_book_kinds q_book_strokeCounts q_book_strokes q_book_lengths q_book_letters q_trial_keys q_trial_firsts q_trial_entries c_length c_drafted c_latestEntries c_latestStrokes c_latestClear c_book_size c_trial_size c_trial_readSoFar a_book_strokeCounts a_book_strokes a_draft a_trial_entries a_trial_firsts a_trial_keys) H → va_D A (jw_Planner_readDraft E q_this q_book q_prefixed q_glued q_joined q_trial q_words q_draft q_latest q_book_kinds q_book_strokeCounts q_book_strokes q_book_lengths q_book_letters q_trial_keys q_trial_firsts q_trial_entries c_length c_drafted c_latestEntries c_latestStrokes c_latestClear c_book_size c_trial_size c_trial_readSoFar a_book_strokeCounts a_book_strokes a_draft a_trial_entries a_trial_firsts a_trial_keys) → va_S A s.heap H locs → lv_has ls 3 [(0, .ref q_this), (1, .int x1), (2, .int x2)] → W p l e jr_Planner_readDraft s m args below meth c H locs 0 0 Q (F0 m 19 ls []) := by
    intro k9 hk9 n
    induction n with
    | zero => intro x1 x2 c_trial_size c_trial_readSoFar a_trial_entries a_trial_firsts a_trial_keys H locs ls h; exact j_none (α := Int32 × Int32 × (Nat → Int32) × (Nat → Int32) × (Nat → Int32)) h
    | succ n ih =>
      intro x1 x2 c_trial_size c_trial_readSoFar a_trial_entries a_trial_firsts a_trial_keys H locs ls h hP hD hS hl
      rw [jf_Planner_readDraft_b19] at h
      refine lv_iload_n hx hb dX5_readDraft_19 rfl (lv_at hl 2 rfl) ?_
      refine lv_aload_n hx hb dX5_readDraft_20 rfl (lv_at hl 0 rfl) ?_
      refine va_get (D := E.1) (ci := 5) (v := .ref q_book) (C := RX5) (T := TX5) (N := 13) hx hb hts hin5 hown hK.1 hP 0 rfl rfl 0 (by decide) hk_26 (fun _ h9 => h9) rfl dX5_readDraft_21 ?_
      refine lv_aload_n hx hb dX5_readDraft_24 rfl (lv_at hl 0 rfl) ?_
      refine va_get (D := E.1) (ci := 5) (v := .ref q_draft) (C := RX5) (T := TX5) (N := 13) hx hb hts hin5 hown hK.1 hP 0 rfl rfl 7 (by decide) hk_15 (fun _ h9 => h9) rfl dX5_readDraft_25 ?_
      refine lv_iload_n hx hb dX5_readDraft_28 rfl (lv_at hl 1 rfl) ?_
      obtain ⟨g29, h⟩ := jga_e h
      refine va_iald hx hb hK.1 hP 5 1 rfl rfl g29 dX5_readDraft_29 ?_
      obtain ⟨r30, hf30, h⟩ := jbd h
      refine j_callVi (own := RX5) (As := [.int (a_draft x1.toNatClampNeg)]) (rest := [.int x2]) hx hb hml hown hts hK hA hP hD hS (jc_Book_strokesOf l E q_book q_book_kinds q_book_strokeCounts q_book_strokes q_book_lengths q_book_letters c_book_size a_book_strokeCounts (a_draft x1.toNatClampNeg) N hf30) gX5_readDraft_X0_strokesOf rfl ⟨rfl, rfl⟩ 1 (by decide +kernel) rfl rfl 1 0 rfl rfl [1, 3] [0, 2, 4, 5, 6, 7, 8] [0, 7, 1, 8, 2, 3, 4, 5, 6] rfl rfl rfl rfl rfl rfl rfl hl.1 rfl rfl dX5_readDraft_30 (fun H locs hP hD hS => ?_)
      replace hP : va_P E.1 vwCl (jw_Planner_readDraft E q_this q_book q_prefixed q_glued q_joined q_trial q_words q_draft q_latest q_book_kinds q_book_strokeCounts q_book_strokes q_book_lengths q_book_letters q_trial_keys q_trial_firsts q_trial_entries c_length c_drafted c_latestEntries c_latestStrokes c_latestClear c_book_size c_trial_size c_trial_readSoFar a_book_strokeCounts a_book_strokes a_draft a_trial_entries a_trial_firsts a_trial_keys) H := hP
      replace hD : va_D A (jw_Planner_readDraft E q_this q_book q_prefixed q_glued q_joined q_trial q_words q_draft q_latest q_book_kinds q_book_strokeCounts q_book_strokes q_book_lengths q_book_letters q_trial_keys q_trial_firsts q_trial_entries c_length c_drafted c_latestEntries c_latestStrokes c_latestClear c_book_size c_trial_size c_trial_readSoFar a_book_strokeCounts a_book_strokes a_draft a_trial_entries a_trial_firsts a_trial_keys) := hD
      refine lv_icmp_ge (tgt := 70) hx hb dX5_readDraft_33 (by decide) (fun hq33 => ?_) (fun hq33 => ?_)
      · replace h := jif_t hq33 h
        exact kb70 k9 hk9  x1 c_trial_size c_trial_readSoFar a_trial_entries a_trial_firsts a_trial_keys _ _ _ h hP hD hS (lv_sub hl [0, 1] rfl)
      · replace h := jif_f hq33 h
        refine lv_aload_n hx hb dX5_readDraft_36 rfl (lv_at hl 0 rfl) ?_
        refine va_get (D := E.1) (ci := 5) (v := .ref q_trial) (C := RX5) (T := TX5) (N := 13) hx hb hts hin5 hown hK.1 hP 0 rfl rfl 4 (by decide) hk_54 (fun _ h9 => h9) rfl dX5_readDraft_37 ?_
        refine lv_aload_n hx hb dX5_readDraft_40 rfl (lv_at hl 0 rfl) ?_
        refine va_get (D := E.1) (ci := 5) (v := .ref q_trial) (C := RX5) (T := TX5) (N := 13) hx hb hts hin5 hown hK.1 hP 0 rfl rfl 4 (by decide) hk_54 (fun _ h9 => h9) rfl dX5_readDraft_41 ?_
        obtain ⟨r44, hf44, h⟩ := jbd h
        refine j_callVi (own := RX5) (As := []) (rest := [.ref q_trial]) hx hb hml hown hts hK hA hP hD hS (jc_Reading_size l E q_trial q_book q_trial_keys q_trial_firsts q_trial_entries c_trial_size c_trial_readSoFar N hf44) gX5_readDraft_X6_size rfl ⟨rfl, rfl⟩ 0 (by decide +kernel) rfl rfl 2 6 rfl rfl [2] [0, 1, 3, 4, 5, 6, 7, 8] [0, 1, 8, 2, 3, 4, 5, 6, 7] rfl rfl rfl rfl rfl rfl rfl hl.1 rfl rfl dX5_readDraft_44 (fun H locs hP hD hS => ?_)
        replace hP : va_P E.1 vwCl (jw_Planner_readDraft E q_this q_book q_prefixed q_glued q_joined q_trial q_words q_draft q_latest q_book_kinds q_book_strokeCounts q_book_strokes q_book_lengths q_book_letters q_trial_keys q_trial_firsts q_trial_entries c_length c_drafted c_latestEntries c_latestStrokes c_latestClear c_book_size c_trial_size c_trial_readSoFar a_book_strokeCounts a_book_strokes a_draft a_trial_entries a_trial_firsts a_trial_keys) H := hP
        replace hD : va_D A (jw_Planner_readDraft E q_this q_book q_prefixed q_glued q_joined q_trial q_words q_draft q_latest q_book_kinds q_book_strokeCounts q_book_strokes q_book_lengths q_book_letters q_trial_keys q_trial_firsts q_trial_entries c_length c_drafted c_latestEntries c_latestStrokes c_latestClear c_book_size c_trial_size c_trial_readSoFar a_book_strokeCounts a_book_strokes a_draft a_trial_entries a_trial_firsts a_trial_keys) := hD
        refine lv_aload_n hx hb dX5_readDraft_47 rfl (lv_at hl 0 rfl) ?_
        refine va_get (D := E.1) (ci := 5) (v := .ref q_book) (C := RX5) (T := TX5) (N := 13) hx hb hts hin5 hown hK.1 hP 0 rfl rfl 0 (by decide) hk_26 (fun _ h9 => h9) rfl dX5_readDraft_48 ?_
        refine lv_aload_n hx hb dX5_readDraft_51 rfl (lv_at hl 0 rfl) ?_
        refine va_get (D := E.1) (ci := 5) (v := .ref q_draft) (C := RX5) (T := TX5) (N := 13) hx hb hts hin5 hown hK.1 hP 0 rfl rfl 7 (by decide) hk_15 (fun _ h9 => h9) rfl dX5_readDraft_52 ?_
        refine lv_iload_n hx hb dX5_readDraft_55 rfl (lv_at hl 1 rfl) ?_
        obtain ⟨g56, h⟩ := jga_e h
        refine va_iald hx hb hK.1 hP 5 1 rfl rfl g56 dX5_readDraft_56 ?_
        refine lv_iload_n hx hb dX5_readDraft_57 rfl (lv_at hl 2 rfl) ?_
        obtain ⟨r58, hf58, h⟩ := jbd h
        refine j_callVi (own := RX5) (As := [.int (a_draft x1.toNatClampNeg), .int x2]) (rest := [.int r44, .ref q_trial]) hx hb hml hown hts hK hA hP hD hS (jc_Book_strokeAt l E q_book q_book_kinds q_book_strokeCounts q_book_strokes q_book_lengths q_book_letters c_book_size a_book_strokeCounts a_book_strokes (a_draft x1.toNatClampNeg) x2 N hf58) gX5_readDraft_X0_strokeAt rfl ⟨rfl, rfl⟩ 2 (by decide +kernel) rfl rfl 1 0 rfl rfl [1, 3, 4] [0, 2, 5, 6, 7, 8] [0, 6, 1, 7, 8, 2, 3, 4, 5] rfl rfl rfl rfl rfl rfl rfl hl.1 rfl rfl dX5_readDraft_58 (fun H locs hP hD hS => ?_)
        replace hP : va_P E.1 vwCl (jw_Planner_readDraft E q_this q_book q_prefixed q_glued q_joined q_trial q_words q_draft q_latest q_book_kinds q_book_strokeCounts q_book_strokes q_book_lengths q_book_letters q_trial_keys q_trial_firsts q_trial_entries c_length c_drafted c_latestEntries c_latestStrokes c_latestClear c_book_size c_trial_size c_trial_readSoFar a_book_strokeCounts a_book_strokes a_draft a_trial_entries a_trial_firsts a_trial_keys) H := hP
        replace hD : va_D A (jw_Planner_readDraft E q_this q_book q_prefixed q_glued q_joined q_trial q_words q_draft q_latest q_book_kinds q_book_strokeCounts q_book_strokes q_book_lengths q_book_letters q_trial_keys q_trial_firsts q_trial_entries c_length c_drafted c_latestEntries c_latestStrokes c_latestClear c_book_size c_trial_size c_trial_readSoFar a_book_strokeCounts a_book_strokes a_draft a_trial_entries a_trial_firsts a_trial_keys) := hD
        obtain ⟨⟨c_trial_size_61, a_trial_keys_61⟩, hf61, h⟩ := jbd h
        refine j_callVv (own := RX5) (As := [.int r44, .int r58]) (rest := []) hx hb hml hown hts hK hA hP hD hS (jc_Reading_put l E q_trial q_book q_trial_keys q_trial_firsts q_trial_entries c_trial_size c_trial_readSoFar a_trial_keys r44 r58 N hf61) gX5_readDraft_X6_put rfl ⟨rfl, rfl⟩ 2 (by decide +kernel) rfl rfl 2 6 rfl rfl [2, 8] [0, 1, 3, 4, 5, 6, 7] [0, 1, 7, 2, 3, 4, 5, 6, 8] rfl rfl rfl rfl rfl rfl rfl hl.1 rfl rfl dX5_readDraft_61 (fun H locs hP hD hS => ?_)
        replace hP : va_P E.1 vwCl (jw_Planner_readDraft E q_this q_book q_prefixed q_glued q_joined q_trial q_words q_draft q_latest q_book_kinds q_book_strokeCounts q_book_strokes q_book_lengths q_book_letters q_trial_keys q_trial_firsts q_trial_entries c_length c_drafted c_latestEntries c_latestStrokes c_latestClear c_book_size c_trial_size_61 c_trial_readSoFar a_book_strokeCounts a_book_strokes a_draft a_trial_entries a_trial_firsts a_trial_keys_61) H := hP
        replace hD : va_D A (jw_Planner_readDraft E q_this q_book q_prefixed q_glued q_joined q_trial q_words q_draft q_latest q_book_kinds q_book_strokeCounts q_book_strokes q_book_lengths q_book_letters q_trial_keys q_trial_firsts q_trial_entries c_length c_drafted c_latestEntries c_latestStrokes c_latestClear c_book_size c_trial_size_61 c_trial_readSoFar a_book_strokeCounts a_book_strokes a_draft a_trial_entries a_trial_firsts a_trial_keys_61) := hD
        refine lv_iinc (v := (x2 + 1)) (lv' := [(2, .int (x2 + 1)), (0, .ref q_this), (1, .int x1)]) hx hb dX5_readDraft_64 hl (k := 2) rfl rfl (by decide) rfl (fun ls hl => ?_)
        refine lv_goto (tgt := 19) hx hb dX5_readDraft_67 (by decide) ?_
        exact ih x1 (x2 + 1) c_trial_size_61 c_trial_readSoFar a_trial_entries a_trial_firsts a_trial_keys_61 _ _ _ h hP hD hS (lv_sub hl [1, 2, 0] rfl)
  have kb9 : ∀ (n : Nat) (x1 : Int32) (c_trial_size : Int32) (c_trial_readSoFar : Int32) (a_trial_entries : (Nat → Int32)) (a_trial_firsts : (Nat → Int32)) (a_trial_keys : (Nat → Int32)) (H : Heap) (locs : List Loc) (ls : Array Slot), jf_Planner_readDraft_b9 N c_drafted c_book_size a_book_strokeCounts a_book_strokes a_draft n x1 c_trial_size c_trial_readSoFar a_trial_entries a_trial_firsts a_trial_keys = some T → va_P E.1 vwCl (jw_Planner_readDraft E q_this q_book q_prefixed q_glued q_joined q_trial q_words q_draft q_latest q_book_kinds q_book_strokeCounts q_book_strokes q_book_lengths q_book_letters q_trial_keys q_trial_firsts q_trial_entries c_length c_drafted c_latestEntries c_latestStrokes c_latestClear c_book_size c_trial_size c_trial_readSoFar a_book_strokeCounts a_book_strokes a_draft a_trial_entries a_trial_firsts a_trial_keys) H → va_D A (jw_Planner_readDraft E q_this q_book q_prefixed q_glued q_joined q_trial q_words q_draft q_latest q_book_kinds q_book_strokeCounts q_book_strokes q_book_lengths q_book_letters q_trial_keys q_trial_firsts q_trial_entries c_length c_drafted c_latestEntries c_latestStrokes c_latestClear c_book_size c_trial_size c_trial_readSoFar a_book_strokeCounts a_book_strokes a_draft a_trial_entries a_trial_firsts a_trial_keys) → va_S A s.heap H locs → lv_has ls 3 [(0, .ref q_this), (1, .int x1)] → W p l e jr_Planner_readDraft s m args below meth c H locs 0 0 Q (F0 m 9 ls []) := by
    intro n
    induction n with
    | zero => intro x1 c_trial_size c_trial_readSoFar a_trial_entries a_trial_firsts a_trial_keys H locs ls h; exact j_none (α := Int32 × Int32 × (Nat → Int32) × (Nat → Int32) × (Nat → Int32)) h
    | succ n ih =>
      intro x1 c_trial_size c_trial_readSoFar a_trial_entries a_trial_firsts a_trial_keys H locs ls h hP hD hS hl
      rw [jf_Planner_readDraft_b9] at h
      refine lv_iload_n hx hb dX5_readDraft_9 rfl (lv_at hl 1 rfl) ?_
      refine lv_aload_n hx hb dX5_readDraft_10 rfl (lv_at hl 0 rfl) ?_
      refine va_get (D := E.1) (ci := 5) (v := .int c_drafted) (C := RX5) (T := TX5) (N := 13) hx hb hts hin5 hown hK.1 hP 0 rfl rfl 8 (by decide) hk_77 (fun _ h9 => h9) rfl dX5_readDraft_11 ?_
      refine lv_icmp_ge (tgt := 76) hx hb dX5_readDraft_14 (by decide) (fun hq14 => ?_) (fun hq14 => ?_)
      · replace h := jif_t hq14 h
        exact kb76   c_trial_size c_trial_readSoFar a_trial_entries a_trial_firsts a_trial_keys _ _ _ h hP hD hS (lv_sub hl [0] rfl)
      · replace h := jif_f hq14 h
        refine lv_iconst (v := 0) hx hb dX5_readDraft_17 (by decide) ?_
        refine lv_istore_n (lv' := [(2, .int 0), (0, .ref q_this), (1, .int x1)]) hx hb dX5_readDraft_18 rfl hl (by decide) rfl (fun ls hl => ?_)
        exact kb19 (jf_Planner_readDraft_b9 N c_drafted c_book_size a_book_strokeCounts a_book_strokes a_draft n) ih N x1 0 c_trial_size c_trial_readSoFar a_trial_entries a_trial_firsts a_trial_keys _ _ _ h hP hD hS (lv_sub hl [1, 2, 0] rfl)
  unfold jf_Planner_readDraft at h
  refine lv_aload_n hx hb dX5_readDraft_0 rfl (lv_at hl 0 rfl) ?_
  refine va_get (D := E.1) (ci := 5) (v := .ref q_trial) (C := RX5) (T := TX5) (N := 13) hx hb hts hin5 hown hK.1 hP 0 rfl rfl 4 (by decide) hk_54 (fun _ h9 => h9) rfl dX5_readDraft_1 ?_
  obtain ⟨⟨c_trial_size_4, c_trial_readSoFar_4⟩, hf4, h⟩ := jbd h
  refine j_callVv (own := RX5) (As := []) (rest := []) hx hb hml hown hts hK hA hP hD hS (jc_Reading_empty l E q_trial q_book q_trial_keys q_trial_firsts q_trial_entries c_trial_size c_trial_readSoFar N hf4) gX5_readDraft_X6_empty rfl ⟨rfl, rfl⟩ 0 (by decide +kernel) rfl rfl 2 6 rfl rfl [2] [0, 1, 3, 4, 5, 6, 7, 8] [0, 1, 8, 2, 3, 4, 5, 6, 7] rfl rfl rfl rfl rfl rfl rfl hl.1 rfl rfl dX5_readDraft_4 (fun H locs hP hD hS => ?_)
  replace hP : va_P E.1 vwCl (jw_Planner_readDraft E q_this q_book q_prefixed q_glued q_joined q_trial q_words q_draft q_latest q_book_kinds q_book_strokeCounts q_book_strokes q_book_lengths q_book_letters q_trial_keys q_trial_firsts q_trial_entries c_length c_drafted c_latestEntries c_latestStrokes c_latestClear c_book_size c_trial_size_4 c_trial_readSoFar_4 a_book_strokeCounts a_book_strokes a_draft a_trial_entries a_trial_firsts a_trial_keys) H := hP
  replace hD : va_D A (jw_Planner_readDraft E q_this q_book q_prefixed q_glued q_joined q_trial q_words q_draft q_latest q_book_kinds q_book_strokeCounts q_book_strokes q_book_lengths q_book_letters q_trial_keys q_trial_firsts q_trial_entries c_length c_drafted c_latestEntries c_latestStrokes c_latestClear c_book_size c_trial_size_4 c_trial_readSoFar_4 a_book_strokeCounts a_book_strokes a_draft a_trial_entries a_trial_firsts a_trial_keys) := hD
  refine lv_iconst (v := 0) hx hb dX5_readDraft_7 (by decide) ?_
  refine lv_istore_n (lv' := [(1, .int 0), (0, .ref q_this)]) hx hb dX5_readDraft_8 rfl hl (by decide) rfl (fun ls hl => ?_)
  exact kb9  N 0 c_trial_size_4 c_trial_readSoFar_4 a_trial_entries a_trial_firsts a_trial_keys _ _ _ h hP hD hS (lv_sub hl [1, 0] rfl)
abbrev jw_Planner_isDraftRead (E : jE) (q_this q_book q_prefixed q_glued q_joined q_trial q_words q_draft q_latest q_trial_keys q_trial_firsts q_trial_entries : Nat) (c_length : Int32) (c_drafted : Int32) (c_latestEntries : Int32) (c_latestStrokes : Int32) (c_latestClear : Int32) (c_trial_size : Int32) (c_trial_readSoFar : Int32) (a_draft : (Nat → Int32)) (a_trial_entries : (Nat → Int32)) (a_trial_firsts : (Nat → Int32)) : va_W := [(q_this, .inr (5, [.ref q_book, .ref q_prefixed, .ref q_glued, .ref q_joined, .ref q_trial, .ref q_words, .int c_length, .ref q_draft, .int c_drafted, .ref q_latest, .int c_latestEntries, .int c_latestStrokes, .int c_latestClear])), (q_trial, .inr (6, [.ref q_book, .ref q_trial_keys, .ref q_trial_firsts, .ref q_trial_entries, .int c_trial_size, .int c_trial_readSoFar])), (q_draft, .inl (E.2.2.1, 60, .inl a_draft)), (q_trial_entries, .inl (E.2.2.1, 300, .inl a_trial_entries)), (q_trial_firsts, .inl (E.2.2.1, 300, .inl a_trial_firsts))]
def jr_Planner_isDraftRead : Room := { frames := 1, cells := 0, slots := 0, locals := 21 }
set_option maxHeartbeats 4000000 in
set_option maxRecDepth 100000 in
theorem jc_Planner_isDraftRead (l : Launch) (E : jE) (q_this q_book q_prefixed q_glued q_joined q_trial q_words q_draft q_latest q_trial_keys q_trial_firsts q_trial_entries : Nat) (c_length : Int32) (c_drafted : Int32) (c_latestEntries : Int32) (c_latestStrokes : Int32) (c_latestClear : Int32) (c_trial_size : Int32) (c_trial_readSoFar : Int32) (a_draft : (Nat → Int32)) (a_trial_entries : (Nat → Int32)) (a_trial_firsts : (Nat → Int32)) (N : Nat) {T : Int32} (h : jf_Planner_isDraftRead N c_drafted c_trial_size a_draft a_trial_entries a_trial_firsts = some T) : jMi l yX5_isDraftRead wsX5_isDraftRead jr_Planner_isDraftRead E [.ref q_this] (jw_Planner_isDraftRead E q_this q_book q_prefixed q_glued q_joined q_trial q_words q_draft q_latest q_trial_keys q_trial_firsts q_trial_entries c_length c_drafted c_latestEntries c_latestStrokes c_latestClear c_trial_size c_trial_readSoFar a_draft a_trial_entries a_trial_firsts) (T) (jw_Planner_isDraftRead E q_this q_book q_prefixed q_glued q_joined q_trial q_words q_draft q_latest q_trial_keys q_trial_firsts q_trial_entries c_length c_drafted c_latestEntries c_latestStrokes c_latestClear c_trial_size c_trial_readSoFar a_draft a_trial_entries a_trial_firsts) := by
  refine jMi.begin (cc := cX5_isDraftRead) (maxL := 3) (ret := (some .boolean)) (by decide) rfl (Nat.le_of_ble_eq_true rfl) ?_
  intro p e s m args below meth c A ls Q hQ hx hb hr hml hown hlocks hts hK hA hP hD hS hl
  replace hown : s.vm.findClass RX5 = some m.cls := hown
  replace hl : lv_has ls 3 [(0, .ref q_this)] := hl
  have hin5 : ∀ w ∈ u_ws RX5 TX5 13, w ∈ wsX5_isDraftRead := by decide +kernel
  have hk_15 := hts (.fieldLink RX5 15 "StenoRoom$Planner" "draft" "[I") (by decide +kernel)
  have hk_54 := hts (.fieldLink RX5 54 "StenoRoom$Planner" "trial" "LStenoRoom$Reading;") (by decide +kernel)
  have hk_77 := hts (.fieldLink RX5 77 "StenoRoom$Planner" "drafted" "I") (by decide +kernel)
  have kb57 : ∀ (x1 : Int32) (H : Heap) (locs : List Loc) (ls : Array Slot), jf_Planner_isDraftRead_b57 x1 = some T → va_P E.1 vwCl (jw_Planner_isDraftRead E q_this q_book q_prefixed q_glued q_joined q_trial q_words q_draft q_latest q_trial_keys q_trial_firsts q_trial_entries c_length c_drafted c_latestEntries c_latestStrokes c_latestClear c_trial_size c_trial_readSoFar a_draft a_trial_entries a_trial_firsts) H → va_D A (jw_Planner_isDraftRead E q_this q_book q_prefixed q_glued q_joined q_trial q_words q_draft q_latest q_trial_keys q_trial_firsts q_trial_entries c_length c_drafted c_latestEntries c_latestStrokes c_latestClear c_trial_size c_trial_readSoFar a_draft a_trial_entries a_trial_firsts) → va_S A s.heap H locs → lv_has ls 3 [(0, .ref q_this), (1, .int x1)] → W p l e jr_Planner_isDraftRead s m args below meth c H locs 0 0 Q (F0 m 57 ls []) := by
    intro  x1 H locs ls h hP hD hS hl
    unfold jf_Planner_isDraftRead_b57 at h
    refine lv_iload_n hx hb dX5_isDraftRead_57 rfl (lv_at hl 1 rfl) ?_
    refine lv_iconst (v := (-1)) hx hb dX5_isDraftRead_58 (by decide) ?_
    refine lv_icmp_ne (tgt := 66) hx hb dX5_isDraftRead_59 (by decide) (fun hq59 => ?_) (fun hq59 => ?_)
    · replace h := jif_f hq59 h
      refine lv_iconst (v := 0) hx hb dX5_isDraftRead_66 (by decide) ?_
      exact j_iret (u := 0) (rv := (fun T => T)) (wv := (fun _ => (jw_Planner_isDraftRead E q_this q_book q_prefixed q_glued q_joined q_trial q_words q_draft q_latest q_trial_keys q_trial_firsts q_trial_entries c_length c_drafted c_latestEntries c_latestStrokes c_latestClear c_trial_size c_trial_readSoFar a_draft a_trial_entries a_trial_firsts))) h hQ hx hb hr jb_0 hlocks hS hP hD dX5_isDraftRead_67
    · replace h := jif_t hq59 h
      refine lv_iconst (v := 1) hx hb dX5_isDraftRead_62 (by decide) ?_
      refine lv_goto (tgt := 67) hx hb dX5_isDraftRead_63 (by decide) ?_
      exact j_iret (u := 1) (rv := (fun T => T)) (wv := (fun _ => (jw_Planner_isDraftRead E q_this q_book q_prefixed q_glued q_joined q_trial q_words q_draft q_latest q_trial_keys q_trial_firsts q_trial_entries c_length c_drafted c_latestEntries c_latestStrokes c_latestClear c_trial_size c_trial_readSoFar a_draft a_trial_entries a_trial_firsts))) h hQ hx hb hr jb_1 hlocks hS hP hD dX5_isDraftRead_67
  have kb17 : ∀ (n : Nat) (x1 : Int32) (x2 : Int32) (H : Heap) (locs : List Loc) (ls : Array Slot), jf_Planner_isDraftRead_b17 c_trial_size a_draft a_trial_entries a_trial_firsts n x1 x2 = some T → va_P E.1 vwCl (jw_Planner_isDraftRead E q_this q_book q_prefixed q_glued q_joined q_trial q_words q_draft q_latest q_trial_keys q_trial_firsts q_trial_entries c_length c_drafted c_latestEntries c_latestStrokes c_latestClear c_trial_size c_trial_readSoFar a_draft a_trial_entries a_trial_firsts) H → va_D A (jw_Planner_isDraftRead E q_this q_book q_prefixed q_glued q_joined q_trial q_words q_draft q_latest q_trial_keys q_trial_firsts q_trial_entries c_length c_drafted c_latestEntries c_latestStrokes c_latestClear c_trial_size c_trial_readSoFar a_draft a_trial_entries a_trial_firsts) → va_S A s.heap H locs → lv_has ls 3 [(0, .ref q_this), (1, .int x1), (2, .int x2)] → W p l e jr_Planner_isDraftRead s m args below meth c H locs 0 0 Q (F0 m 17 ls []) := by
    intro n
    induction n with
    | zero => intro x1 x2 H locs ls h; exact j_none (α := Int32) h
    | succ n ih =>
      intro x1 x2 H locs ls h hP hD hS hl
      rw [jf_Planner_isDraftRead_b17] at h
      refine lv_iload_n hx hb dX5_isDraftRead_17 rfl (lv_at hl 2 rfl) ?_
      refine lv_if_lt (tgt := 57) hx hb dX5_isDraftRead_18 (by decide) (fun hq18 => ?_) (fun hq18 => ?_)
      · replace h := jif_t hq18 h
        exact kb57   x1 _ _ _ h hP hD hS (lv_sub hl [0, 1] rfl)
      · replace h := jif_f hq18 h
        refine lv_aload_n hx hb dX5_isDraftRead_21 rfl (lv_at hl 0 rfl) ?_
        refine va_get (D := E.1) (ci := 5) (v := .ref q_trial) (C := RX5) (T := TX5) (N := 13) hx hb hts hin5 hown hK.1 hP 0 rfl rfl 4 (by decide) hk_54 (fun _ h9 => h9) rfl dX5_isDraftRead_22 ?_
        refine lv_iload_n hx hb dX5_isDraftRead_25 rfl (lv_at hl 1 rfl) ?_
        obtain ⟨r26, hf26, h⟩ := jbd h
        refine j_callVi (own := RX5) (As := [.int x1]) (rest := []) hx hb hml hown hts hK hA hP hD hS (jc_Reading_entryAt l E q_trial q_book q_trial_keys q_trial_firsts q_trial_entries c_trial_size c_trial_readSoFar a_trial_entries x1 N hf26) gX5_isDraftRead_X6_entryAt rfl ⟨rfl, rfl⟩ 1 (by decide +kernel) rfl rfl 1 6 rfl rfl [1, 3] [0, 2, 4] [0, 3, 1, 4, 2] rfl rfl rfl rfl rfl rfl rfl hl.1 rfl rfl dX5_isDraftRead_26 (fun H locs hP hD hS => ?_)
        replace hP : va_P E.1 vwCl (jw_Planner_isDraftRead E q_this q_book q_prefixed q_glued q_joined q_trial q_words q_draft q_latest q_trial_keys q_trial_firsts q_trial_entries c_length c_drafted c_latestEntries c_latestStrokes c_latestClear c_trial_size c_trial_readSoFar a_draft a_trial_entries a_trial_firsts) H := hP
        replace hD : va_D A (jw_Planner_isDraftRead E q_this q_book q_prefixed q_glued q_joined q_trial q_words q_draft q_latest q_trial_keys q_trial_firsts q_trial_entries c_length c_drafted c_latestEntries c_latestStrokes c_latestClear c_trial_size c_trial_readSoFar a_draft a_trial_entries a_trial_firsts) := hD
        refine lv_aload_n hx hb dX5_isDraftRead_29 rfl (lv_at hl 0 rfl) ?_
        refine va_get (D := E.1) (ci := 5) (v := .ref q_draft) (C := RX5) (T := TX5) (N := 13) hx hb hts hin5 hown hK.1 hP 0 rfl rfl 7 (by decide) hk_15 (fun _ h9 => h9) rfl dX5_isDraftRead_30 ?_
        refine lv_iload_n hx hb dX5_isDraftRead_33 rfl (lv_at hl 2 rfl) ?_
        obtain ⟨g34, h⟩ := jga_e h
        refine va_iald hx hb hK.1 hP 2 1 rfl rfl g34 dX5_isDraftRead_34 ?_
        refine lv_icmp_eq (tgt := 40) hx hb dX5_isDraftRead_35 (by decide) (fun hq35 => ?_) (fun hq35 => ?_)
        · replace h := jif_t hq35 h
          refine lv_aload_n hx hb dX5_isDraftRead_40 rfl (lv_at hl 0 rfl) ?_
          refine va_get (D := E.1) (ci := 5) (v := .ref q_trial) (C := RX5) (T := TX5) (N := 13) hx hb hts hin5 hown hK.1 hP 0 rfl rfl 4 (by decide) hk_54 (fun _ h9 => h9) rfl dX5_isDraftRead_41 ?_
          refine lv_iload_n hx hb dX5_isDraftRead_44 rfl (lv_at hl 1 rfl) ?_
          obtain ⟨r45, hf45, h⟩ := jbd h
          refine j_callVi (own := RX5) (As := [.int x1]) (rest := []) hx hb hml hown hts hK hA hP hD hS (jc_Reading_firstAt l E q_trial q_book q_trial_keys q_trial_firsts q_trial_entries c_trial_size c_trial_readSoFar a_trial_firsts x1 N hf45) gX5_isDraftRead_X6_firstAt rfl ⟨rfl, rfl⟩ 1 (by decide +kernel) rfl rfl 1 6 rfl rfl [1, 4] [0, 2, 3] [0, 3, 1, 2, 4] rfl rfl rfl rfl rfl rfl rfl hl.1 rfl rfl dX5_isDraftRead_45 (fun H locs hP hD hS => ?_)
          replace hP : va_P E.1 vwCl (jw_Planner_isDraftRead E q_this q_book q_prefixed q_glued q_joined q_trial q_words q_draft q_latest q_trial_keys q_trial_firsts q_trial_entries c_length c_drafted c_latestEntries c_latestStrokes c_latestClear c_trial_size c_trial_readSoFar a_draft a_trial_entries a_trial_firsts) H := hP
          replace hD : va_D A (jw_Planner_isDraftRead E q_this q_book q_prefixed q_glued q_joined q_trial q_words q_draft q_latest q_trial_keys q_trial_firsts q_trial_entries c_length c_drafted c_latestEntries c_latestStrokes c_latestClear c_trial_size c_trial_readSoFar a_draft a_trial_entries a_trial_firsts) := hD
          refine lv_iconst (v := 1) hx hb dX5_isDraftRead_48 (by decide) ?_
          refine lv_isub hx hb dX5_isDraftRead_49 ?_
          refine lv_istore_n (lv' := [(1, .int (r45 - 1)), (0, .ref q_this), (2, .int x2)]) hx hb dX5_isDraftRead_50 rfl hl (by decide) rfl (fun ls hl => ?_)
          refine lv_iinc (v := (x2 + (-1))) (lv' := [(2, .int (x2 + (-1))), (1, .int (r45 - 1)), (0, .ref q_this)]) hx hb dX5_isDraftRead_51 hl (k := 2) rfl rfl (by decide) rfl (fun ls hl => ?_)
          refine lv_goto (tgt := 17) hx hb dX5_isDraftRead_54 (by decide) ?_
          exact ih (r45 - 1) (x2 + (-1)) _ _ _ h hP hD hS (lv_sub hl [2, 1, 0] rfl)
        · replace h := jif_f hq35 h
          refine lv_iconst (v := 0) hx hb dX5_isDraftRead_38 (by decide) ?_
          exact j_iret (u := 0) (rv := (fun T => T)) (wv := (fun _ => (jw_Planner_isDraftRead E q_this q_book q_prefixed q_glued q_joined q_trial q_words q_draft q_latest q_trial_keys q_trial_firsts q_trial_entries c_length c_drafted c_latestEntries c_latestStrokes c_latestClear c_trial_size c_trial_readSoFar a_draft a_trial_entries a_trial_firsts))) h hQ hx hb hr jb_0 hlocks hS hP hD dX5_isDraftRead_39
  unfold jf_Planner_isDraftRead at h
  refine lv_aload_n hx hb dX5_isDraftRead_0 rfl (lv_at hl 0 rfl) ?_
  refine va_get (D := E.1) (ci := 5) (v := .ref q_trial) (C := RX5) (T := TX5) (N := 13) hx hb hts hin5 hown hK.1 hP 0 rfl rfl 4 (by decide) hk_54 (fun _ h9 => h9) rfl dX5_isDraftRead_1 ?_
  obtain ⟨r4, hf4, h⟩ := jbd h
  refine j_callVi (own := RX5) (As := []) (rest := []) hx hb hml hown hts hK hA hP hD hS (jc_Reading_size l E q_trial q_book q_trial_keys q_trial_firsts q_trial_entries c_trial_size c_trial_readSoFar N hf4) gX5_isDraftRead_X6_size rfl ⟨rfl, rfl⟩ 0 (by decide +kernel) rfl rfl 1 6 rfl rfl [1] [0, 2, 3, 4] [0, 4, 1, 2, 3] rfl rfl rfl rfl rfl rfl rfl hl.1 rfl rfl dX5_isDraftRead_4 (fun H locs hP hD hS => ?_)
  replace hP : va_P E.1 vwCl (jw_Planner_isDraftRead E q_this q_book q_prefixed q_glued q_joined q_trial q_words q_draft q_latest q_trial_keys q_trial_firsts q_trial_entries c_length c_drafted c_latestEntries c_latestStrokes c_latestClear c_trial_size c_trial_readSoFar a_draft a_trial_entries a_trial_firsts) H := hP
  replace hD : va_D A (jw_Planner_isDraftRead E q_this q_book q_prefixed q_glued q_joined q_trial q_words q_draft q_latest q_trial_keys q_trial_firsts q_trial_entries c_length c_drafted c_latestEntries c_latestStrokes c_latestClear c_trial_size c_trial_readSoFar a_draft a_trial_entries a_trial_firsts) := hD
  refine lv_iconst (v := 1) hx hb dX5_isDraftRead_7 (by decide) ?_
  refine lv_isub hx hb dX5_isDraftRead_8 ?_
  refine lv_istore_n (lv' := [(1, .int (r4 - 1)), (0, .ref q_this)]) hx hb dX5_isDraftRead_9 rfl hl (by decide) rfl (fun ls hl => ?_)
  refine lv_aload_n hx hb dX5_isDraftRead_10 rfl (lv_at hl 1 rfl) ?_
  refine va_get (D := E.1) (ci := 5) (v := .int c_drafted) (C := RX5) (T := TX5) (N := 13) hx hb hts hin5 hown hK.1 hP 0 rfl rfl 8 (by decide) hk_77 (fun _ h9 => h9) rfl dX5_isDraftRead_11 ?_
  refine lv_iconst (v := 1) hx hb dX5_isDraftRead_14 (by decide) ?_
  refine lv_isub hx hb dX5_isDraftRead_15 ?_
  refine lv_istore_n (lv' := [(2, .int (c_drafted - 1)), (1, .int (r4 - 1)), (0, .ref q_this)]) hx hb dX5_isDraftRead_16 rfl hl (by decide) rfl (fun ls hl => ?_)
  exact kb17  N (r4 - 1) (c_drafted - 1) _ _ _ h hP hD hS (lv_sub hl [2, 1, 0] rfl)
abbrev jw_Chain_costOf (E : jE) : va_W := []
def jr_Chain_costOf : Room := { frames := 0, cells := 0, slots := 0, locals := 0 }
set_option maxHeartbeats 4000000 in
set_option maxRecDepth 100000 in
theorem jc_Chain_costOf (l : Launch) (E : jE) (x0 : Int32) (x1 : Int32) (x2 : Int32) (N : Nat) {T : Int32} (h : jf_Chain_costOf x0 x1 x2 = some T) : jMi l yX1_costOf wsX1_costOf jr_Chain_costOf E [.int x0, .int x1, .int x2] (jw_Chain_costOf E) (T) (jw_Chain_costOf E) := by
  refine jMi.begin (cc := cX1_costOf) (maxL := 3) (ret := (some .int)) (by decide) rfl (Nat.le_of_ble_eq_true rfl) ?_
  intro p e s m args below meth c A ls Q hQ hx hb hr hml hown hlocks hts hK hA hP hD hS hl
  replace hown : s.vm.findClass RX1 = some m.cls := hown
  replace hl : lv_has ls 3 [(0, .int x0), (1, .int x1), (2, .int x2)] := hl
  unfold jf_Chain_costOf at h
  refine lv_iload_n hx hb dX1_costOf_0 rfl (lv_at hl 0 rfl) ?_
  refine lv_bipush (v := 64) hx hb dX1_costOf_1 (by decide) ?_
  refine lv_imul hx hb dX1_costOf_3 ?_
  refine lv_iload_n hx hb dX1_costOf_4 rfl (lv_at hl 1 rfl) ?_
  refine lv_iadd hx hb dX1_costOf_5 ?_
  refine lv_bipush (v := 64) hx hb dX1_costOf_6 (by decide) ?_
  refine lv_imul hx hb dX1_costOf_8 ?_
  refine lv_iload_n hx hb dX1_costOf_9 rfl (lv_at hl 2 rfl) ?_
  refine lv_iadd hx hb dX1_costOf_10 ?_
  exact j_iret (u := ((((x0 * 64) + x1) * 64) + x2)) (rv := (fun T => T)) (wv := (fun _ => (jw_Chain_costOf E))) h hQ hx hb hr rfl hlocks hS hP hD dX1_costOf_11
abbrev jw_Chain_costThrough (E : jE) (q_this q_book q_costs q_picks q_book_kinds q_book_strokeCounts q_book_strokes q_book_lengths q_book_letters : Nat) (c_innerKind : Int32) (c_lastKind : Int32) (c_book_size : Int32) (a_book_kinds : (Nat → Int32)) (a_book_strokeCounts : (Nat → Int32)) (a_costs : (Nat → Int32)) : va_W := [(q_this, .inr (1, [.ref q_book, .int c_innerKind, .int c_lastKind, .ref q_costs, .ref q_picks])), (q_book, .inr (0, [.ref q_book_kinds, .ref q_book_strokeCounts, .ref q_book_strokes, .ref q_book_lengths, .ref q_book_letters, .int c_book_size])), (q_book_kinds, .inl (E.2.2.1, 60, .inl a_book_kinds)), (q_book_strokeCounts, .inl (E.2.2.1, 60, .inl a_book_strokeCounts)), (q_costs, .inl (E.2.2.1, 60, .inl a_costs))]
def jr_Chain_costThrough : Room := { frames := 1, cells := 0, slots := 0, locals := 22 }
set_option maxHeartbeats 4000000 in
set_option maxRecDepth 100000 in
theorem jc_Chain_costThrough (l : Launch) (E : jE) (q_this q_book q_costs q_picks q_book_kinds q_book_strokeCounts q_book_strokes q_book_lengths q_book_letters : Nat) (c_innerKind : Int32) (c_lastKind : Int32) (c_book_size : Int32) (a_book_kinds : (Nat → Int32)) (a_book_strokeCounts : (Nat → Int32)) (a_costs : (Nat → Int32)) (x1 : Int32) (x2 : Int32) (x3 : Int32) (N : Nat) {T : Int32} (h : jf_Chain_costThrough x1 x2 x3 c_innerKind c_lastKind c_book_size a_book_kinds a_book_strokeCounts a_costs = some T) : jMi l yX1_costThrough wsX1_costThrough jr_Chain_costThrough E [.ref q_this, .int x1, .int x2, .int x3] (jw_Chain_costThrough E q_this q_book q_costs q_picks q_book_kinds q_book_strokeCounts q_book_strokes q_book_lengths q_book_letters c_innerKind c_lastKind c_book_size a_book_kinds a_book_strokeCounts a_costs) (T) (jw_Chain_costThrough E q_this q_book q_costs q_picks q_book_kinds q_book_strokeCounts q_book_strokes q_book_lengths q_book_letters c_innerKind c_lastKind c_book_size a_book_kinds a_book_strokeCounts a_costs) := by
  refine jMi.begin (cc := cX1_costThrough) (maxL := 6) (ret := (some .int)) (by decide) rfl (Nat.le_of_ble_eq_true rfl) ?_
  intro p e s m args below meth c A ls Q hQ hx hb hr hml hown hlocks hts hK hA hP hD hS hl
  replace hown : s.vm.findClass RX1 = some m.cls := hown
  replace hl : lv_has ls 6 [(0, .ref q_this), (1, .int x1), (2, .int x2), (3, .int x3)] := hl
  have hin1 : ∀ w ∈ u_ws RX1 TX1 5, w ∈ wsX1_costThrough := by decide +kernel
  have hk_9 := hts (.fieldLink RX1 9 "StenoRoom$Chain" "costs" "[I") (by decide +kernel)
  have hk_18 := hts (.fieldLink RX1 18 "StenoRoom$Chain" "book" "LStenoRoom$Book;") (by decide +kernel)
  have hk_22 := hts (.fieldLink RX1 22 "StenoRoom$Chain" "innerKind" "I") (by decide +kernel)
  have hk_26 := hts (.fieldLink RX1 26 "StenoRoom$Chain" "lastKind" "I") (by decide +kernel)
  have kb72 : ∀ (H : Heap) (locs : List Loc) (ls : Array Slot), jf_Chain_costThrough_b72  = some T → va_P E.1 vwCl (jw_Chain_costThrough E q_this q_book q_costs q_picks q_book_kinds q_book_strokeCounts q_book_strokes q_book_lengths q_book_letters c_innerKind c_lastKind c_book_size a_book_kinds a_book_strokeCounts a_costs) H → va_D A (jw_Chain_costThrough E q_this q_book q_costs q_picks q_book_kinds q_book_strokeCounts q_book_strokes q_book_lengths q_book_letters c_innerKind c_lastKind c_book_size a_book_kinds a_book_strokeCounts a_costs) → va_S A s.heap H locs → lv_has ls 6 [(0, .ref q_this)] → W p l e jr_Chain_costThrough s m args below meth c H locs 0 0 Q (F0 m 72 ls []) := by
    intro   H locs ls h hP hD hS hl
    unfold jf_Chain_costThrough_b72 at h
    refine lv_ldc (v := 2147483647) hx hb hown (hts (.constant RX1 29 2147483647) (by decide +kernel)) dX1_costThrough_72 ?_
    exact j_iret (u := 2147483647) (rv := (fun T => T)) (wv := (fun _ => (jw_Chain_costThrough E q_this q_book q_costs q_picks q_book_kinds q_book_strokeCounts q_book_strokes q_book_lengths q_book_letters c_innerKind c_lastKind c_book_size a_book_kinds a_book_strokeCounts a_costs))) h hQ hx hb hr rfl hlocks hS hP hD dX1_costThrough_74
  unfold jf_Chain_costThrough at h
  refine lv_aload_n hx hb dX1_costThrough_0 rfl (lv_at hl 0 rfl) ?_
  refine va_get (D := E.1) (ci := 1) (v := .ref q_book) (C := RX1) (T := TX1) (N := 5) hx hb hts hin1 hown hK.1 hP 0 rfl rfl 0 (by decide) hk_18 (fun _ h9 => h9) rfl dX1_costThrough_1 ?_
  refine lv_iload_n hx hb dX1_costThrough_4 rfl (lv_at hl 1 rfl) ?_
  obtain ⟨r5, hf5, h⟩ := jbd h
  refine j_callVi (own := RX1) (As := [.int x1]) (rest := []) hx hb hml hown hts hK hA hP hD hS (jc_Book_kindOf l E q_book q_book_kinds q_book_strokeCounts q_book_strokes q_book_lengths q_book_letters c_book_size a_book_kinds x1 N hf5) gX1_costThrough_X0_kindOf rfl ⟨rfl, rfl⟩ 1 (by decide +kernel) rfl rfl 1 0 rfl rfl [1, 2] [0, 3, 4] [0, 3, 4, 1, 2] rfl rfl rfl rfl rfl rfl rfl hl.1 rfl rfl dX1_costThrough_5 (fun H locs hP hD hS => ?_)
  replace hP : va_P E.1 vwCl (jw_Chain_costThrough E q_this q_book q_costs q_picks q_book_kinds q_book_strokeCounts q_book_strokes q_book_lengths q_book_letters c_innerKind c_lastKind c_book_size a_book_kinds a_book_strokeCounts a_costs) H := hP
  replace hD : va_D A (jw_Chain_costThrough E q_this q_book q_costs q_picks q_book_kinds q_book_strokeCounts q_book_strokes q_book_lengths q_book_letters c_innerKind c_lastKind c_book_size a_book_kinds a_book_strokeCounts a_costs) := hD
  refine lv_istore (lv' := [(4, .int r5), (0, .ref q_this), (1, .int x1), (2, .int x2), (3, .int x3)]) hx hb dX1_costThrough_8 hl (by decide) rfl (fun ls hl => ?_)
  refine lv_aload_n hx hb dX1_costThrough_10 rfl (lv_at hl 1 rfl) ?_
  refine va_get (D := E.1) (ci := 1) (v := .ref q_book) (C := RX1) (T := TX1) (N := 5) hx hb hts hin1 hown hK.1 hP 0 rfl rfl 0 (by decide) hk_18 (fun _ h9 => h9) rfl dX1_costThrough_11 ?_
  refine lv_iload_n hx hb dX1_costThrough_14 rfl (lv_at hl 2 rfl) ?_
  obtain ⟨r15, hf15, h⟩ := jbd h
  refine j_callVi (own := RX1) (As := [.int x1]) (rest := []) hx hb hml hown hts hK hA hP hD hS (jc_Book_strokesOf l E q_book q_book_kinds q_book_strokeCounts q_book_strokes q_book_lengths q_book_letters c_book_size a_book_strokeCounts x1 N hf15) gX1_costThrough_X0_strokesOf rfl ⟨rfl, rfl⟩ 1 (by decide +kernel) rfl rfl 1 0 rfl rfl [1, 3] [0, 2, 4] [0, 3, 1, 4, 2] rfl rfl rfl rfl rfl rfl rfl hl.1 rfl rfl dX1_costThrough_15 (fun H locs hP hD hS => ?_)
  replace hP : va_P E.1 vwCl (jw_Chain_costThrough E q_this q_book q_costs q_picks q_book_kinds q_book_strokeCounts q_book_strokes q_book_lengths q_book_letters c_innerKind c_lastKind c_book_size a_book_kinds a_book_strokeCounts a_costs) H := hP
  replace hD : va_D A (jw_Chain_costThrough E q_this q_book q_costs q_picks q_book_kinds q_book_strokeCounts q_book_strokes q_book_lengths q_book_letters c_innerKind c_lastKind c_book_size a_book_kinds a_book_strokeCounts a_costs) := hD
  refine lv_iconst (v := 1) hx hb dX1_costThrough_18 (by decide) ?_
  refine lv_iload_n hx hb dX1_costThrough_19 rfl (lv_at hl 2 rfl) ?_
  obtain ⟨r20, hf20, h⟩ := jbd h
  refine j_callSi (own := RX1) (As := [.int r15, .int 1, .int x1]) (rest := []) hx hb hml hown hts hK hA hP hD hS (jc_Chain_costOf l E r15 1 x1 N hf20) gX1_costThrough_X1_costOf rfl ⟨rfl, rfl⟩ 3 (by decide +kernel) rfl rfl [] [0, 1, 2, 3, 4] [0, 1, 2, 3, 4] rfl rfl rfl rfl rfl rfl rfl hl.1 rfl rfl dX1_costThrough_20 (fun H locs hP hD hS => ?_)
  replace hP : va_P E.1 vwCl (jw_Chain_costThrough E q_this q_book q_costs q_picks q_book_kinds q_book_strokeCounts q_book_strokes q_book_lengths q_book_letters c_innerKind c_lastKind c_book_size a_book_kinds a_book_strokeCounts a_costs) H := hP
  replace hD : va_D A (jw_Chain_costThrough E q_this q_book q_costs q_picks q_book_kinds q_book_strokeCounts q_book_strokes q_book_lengths q_book_letters c_innerKind c_lastKind c_book_size a_book_kinds a_book_strokeCounts a_costs) := hD
  refine lv_istore (lv' := [(5, .int r20), (4, .int r5), (0, .ref q_this), (1, .int x1), (2, .int x2), (3, .int x3)]) hx hb dX1_costThrough_23 hl (by decide) rfl (fun ls hl => ?_)
  refine lv_iload_n hx hb dX1_costThrough_25 rfl (lv_at hl 4 rfl) ?_
  refine lv_iload_n hx hb dX1_costThrough_26 rfl (lv_at hl 5 rfl) ?_
  refine lv_icmp_ne (tgt := 47) hx hb dX1_costThrough_27 (by decide) (fun hq27 => ?_) (fun hq27 => ?_)
  · replace h := jif_f hq27 h
    refine lv_iload_n hx hb dX1_costThrough_47 rfl (lv_at hl 4 rfl) ?_
    refine lv_iload_n hx hb dX1_costThrough_48 rfl (lv_at hl 5 rfl) ?_
    refine lv_icmp_gt (tgt := 72) hx hb dX1_costThrough_49 (by decide) (fun hq49 => ?_) (fun hq49 => ?_)
    · replace h := jif_t hq49 h
      exact kb72    _ _ _ h hP hD hS (lv_sub hl [2] rfl)
    · replace h := jif_f hq49 h
      refine lv_iload hx hb dX1_costThrough_52 (lv_at hl 1 rfl) ?_
      refine lv_aload_n hx hb dX1_costThrough_54 rfl (lv_at hl 2 rfl) ?_
      refine va_get (D := E.1) (ci := 1) (v := .int c_innerKind) (C := RX1) (T := TX1) (N := 5) hx hb hts hin1 hown hK.1 hP 0 rfl rfl 1 (by decide) hk_22 (fun _ h9 => h9) rfl dX1_costThrough_55 ?_
      refine lv_icmp_ne (tgt := 72) hx hb dX1_costThrough_58 (by decide) (fun hq58 => ?_) (fun hq58 => ?_)
      · replace h := jif_f hq58 h
        exact kb72    _ _ _ h hP hD hS (lv_sub hl [2] rfl)
      · replace h := jif_t hq58 h
        refine lv_aload_n hx hb dX1_costThrough_61 rfl (lv_at hl 2 rfl) ?_
        refine va_get (D := E.1) (ci := 1) (v := .ref q_costs) (C := RX1) (T := TX1) (N := 5) hx hb hts hin1 hown hK.1 hP 0 rfl rfl 3 (by decide) hk_9 (fun _ h9 => h9) rfl dX1_costThrough_62 ?_
        refine lv_iload_n hx hb dX1_costThrough_65 rfl (lv_at hl 4 rfl) ?_
        obtain ⟨g66, h⟩ := jga_e h
        refine va_iald hx hb hK.1 hP 4 1 rfl rfl g66 dX1_costThrough_66 ?_
        refine lv_ldc (v := 2147483647) hx hb hown (hts (.constant RX1 29 2147483647) (by decide +kernel)) dX1_costThrough_67 ?_
        refine lv_icmp_ne (tgt := 75) hx hb dX1_costThrough_69 (by decide) (fun hq69 => ?_) (fun hq69 => ?_)
        · replace h := jif_f hq69 h
          refine lv_iload hx hb dX1_costThrough_75 (lv_at hl 0 rfl) ?_
          refine lv_aload_n hx hb dX1_costThrough_77 rfl (lv_at hl 2 rfl) ?_
          refine va_get (D := E.1) (ci := 1) (v := .ref q_costs) (C := RX1) (T := TX1) (N := 5) hx hb hts hin1 hown hK.1 hP 0 rfl rfl 3 (by decide) hk_9 (fun _ h9 => h9) rfl dX1_costThrough_78 ?_
          refine lv_iload_n hx hb dX1_costThrough_81 rfl (lv_at hl 4 rfl) ?_
          obtain ⟨g82, h⟩ := jga_e h
          refine va_iald hx hb hK.1 hP 4 1 rfl rfl g82 dX1_costThrough_82 ?_
          refine lv_iadd hx hb dX1_costThrough_83 ?_
          refine lv_aload_n hx hb dX1_costThrough_84 rfl (lv_at hl 2 rfl) ?_
          refine va_get (D := E.1) (ci := 1) (v := .ref q_costs) (C := RX1) (T := TX1) (N := 5) hx hb hts hin1 hown hK.1 hP 0 rfl rfl 3 (by decide) hk_9 (fun _ h9 => h9) rfl dX1_costThrough_85 ?_
          refine lv_iload_n hx hb dX1_costThrough_88 rfl (lv_at hl 4 rfl) ?_
          obtain ⟨g89, h⟩ := jga_e h
          refine va_iald hx hb hK.1 hP 4 1 rfl rfl g89 dX1_costThrough_89 ?_
          refine lv_bipush (v := 64) hx hb dX1_costThrough_90 (by decide) ?_
          refine lv_irem hx hb dX1_costThrough_92 (by decide) ?_
          refine lv_isub hx hb dX1_costThrough_93 ?_
          exact j_iret (u := ((r20 + (a_costs x2.toNatClampNeg)) - ((a_costs x2.toNatClampNeg) - (a_costs x2.toNatClampNeg) / 64 * 64))) (rv := (fun T => T)) (wv := (fun _ => (jw_Chain_costThrough E q_this q_book q_costs q_picks q_book_kinds q_book_strokeCounts q_book_strokes q_book_lengths q_book_letters c_innerKind c_lastKind c_book_size a_book_kinds a_book_strokeCounts a_costs))) h hQ hx hb hr rfl hlocks hS hP hD dX1_costThrough_94
        · replace h := jif_t hq69 h
          exact kb72    _ _ _ h hP hD hS (lv_sub hl [2] rfl)
  · replace h := jif_t hq27 h
    refine lv_iload hx hb dX1_costThrough_30 (lv_at hl 1 rfl) ?_
    refine lv_aload_n hx hb dX1_costThrough_32 rfl (lv_at hl 2 rfl) ?_
    refine va_get (D := E.1) (ci := 1) (v := .int c_lastKind) (C := RX1) (T := TX1) (N := 5) hx hb hts hin1 hown hK.1 hP 0 rfl rfl 2 (by decide) hk_26 (fun _ h9 => h9) rfl dX1_costThrough_33 ?_
    refine lv_icmp_ne (tgt := 44) hx hb dX1_costThrough_36 (by decide) (fun hq36 => ?_) (fun hq36 => ?_)
    · replace h := jif_f hq36 h
      refine lv_ldc (v := 2147483647) hx hb hown (hts (.constant RX1 29 2147483647) (by decide +kernel)) dX1_costThrough_44 ?_
      exact j_iret (u := 2147483647) (rv := (fun T => T)) (wv := (fun _ => (jw_Chain_costThrough E q_this q_book q_costs q_picks q_book_kinds q_book_strokeCounts q_book_strokes q_book_lengths q_book_letters c_innerKind c_lastKind c_book_size a_book_kinds a_book_strokeCounts a_costs))) h hQ hx hb hr rfl hlocks hS hP hD dX1_costThrough_46
    · replace h := jif_t hq36 h
      refine lv_iload hx hb dX1_costThrough_39 (lv_at hl 0 rfl) ?_
      refine lv_goto (tgt := 46) hx hb dX1_costThrough_41 (by decide) ?_
      exact j_iret (u := r20) (rv := (fun T => T)) (wv := (fun _ => (jw_Chain_costThrough E q_this q_book q_costs q_picks q_book_kinds q_book_strokeCounts q_book_strokes q_book_lengths q_book_letters c_innerKind c_lastKind c_book_size a_book_kinds a_book_strokeCounts a_costs))) h hQ hx hb hr rfl hlocks hS hP hD dX1_costThrough_46
abbrev jw_Book_areLettersAt (E : jE) (q_this q_kinds q_strokeCounts q_strokes q_lengths q_letters q_arg3 : Nat) (n_arg3 : Nat) (c_size : Int32) (a_arg3 : (Nat → Int32)) (a_lengths : (Nat → Int32)) (a_letters : (Nat → Int32)) : va_W := [(q_this, .inr (0, [.ref q_kinds, .ref q_strokeCounts, .ref q_strokes, .ref q_lengths, .ref q_letters, .int c_size])), (q_arg3, .inl (E.2.1, n_arg3, .inl a_arg3)), (q_lengths, .inl (E.2.2.1, 60, .inl a_lengths)), (q_letters, .inl (E.2.1, 960, .inl a_letters))]
def jr_Book_areLettersAt : Room := { frames := 1, cells := 0, slots := 0, locals := 21 }
set_option maxHeartbeats 4000000 in
set_option maxRecDepth 100000 in
theorem jc_Book_areLettersAt (l : Launch) (E : jE) (q_this q_kinds q_strokeCounts q_strokes q_lengths q_letters q_arg3 : Nat) (n_arg3 : Nat) (c_size : Int32) (a_arg3 : (Nat → Int32)) (a_lengths : (Nat → Int32)) (a_letters : (Nat → Int32)) (x1 : Int32) (x2 : Int32) (x4 : Int32) (N : Nat) {T : Int32} (h : jf_Book_areLettersAt N x1 x2 x4 n_arg3 c_size a_arg3 a_lengths a_letters = some T) : jMi l yX0_areLettersAt wsX0_areLettersAt jr_Book_areLettersAt E [.ref q_this, .int x1, .int x2, .ref q_arg3, .int x4] (jw_Book_areLettersAt E q_this q_kinds q_strokeCounts q_strokes q_lengths q_letters q_arg3 n_arg3 c_size a_arg3 a_lengths a_letters) (T) (jw_Book_areLettersAt E q_this q_kinds q_strokeCounts q_strokes q_lengths q_letters q_arg3 n_arg3 c_size a_arg3 a_lengths a_letters) := by
  refine jMi.begin (cc := cX0_areLettersAt) (maxL := 6) (ret := (some .boolean)) (by decide) rfl (Nat.le_of_ble_eq_true rfl) ?_
  intro p e s m args below meth c A ls Q hQ hx hb hr hml hown hlocks hts hK hA hP hD hS hl
  replace hown : s.vm.findClass RX0 = some m.cls := hown
  replace hl : lv_has ls 6 [(0, .ref q_this), (1, .int x1), (2, .int x2), (3, .ref q_arg3), (4, .int x4)] := hl
  have hin0 : ∀ w ∈ u_ws RX0 TX0 6, w ∈ wsX0_areLettersAt := by decide +kernel
  have hk_24 := hts (.fieldLink RX0 24 "StenoRoom$Book" "letters" "[B") (by decide +kernel)
  have kb28 : ∀ (n : Nat) (x5 : Int32) (H : Heap) (locs : List Loc) (ls : Array Slot), jf_Book_areLettersAt_b28 x1 x2 x4 n_arg3 a_arg3 a_letters n x5 = some T → va_P E.1 vwCl (jw_Book_areLettersAt E q_this q_kinds q_strokeCounts q_strokes q_lengths q_letters q_arg3 n_arg3 c_size a_arg3 a_lengths a_letters) H → va_D A (jw_Book_areLettersAt E q_this q_kinds q_strokeCounts q_strokes q_lengths q_letters q_arg3 n_arg3 c_size a_arg3 a_lengths a_letters) → va_S A s.heap H locs → lv_has ls 6 [(0, .ref q_this), (1, .int x1), (2, .int x2), (3, .ref q_arg3), (4, .int x4), (5, .int x5)] → W p l e jr_Book_areLettersAt s m args below meth c H locs 0 0 Q (F0 m 28 ls []) := by
    intro n
    induction n with
    | zero => intro x5 H locs ls h; exact j_none (α := Int32) h
    | succ n ih =>
      intro x5 H locs ls h hP hD hS hl
      rw [jf_Book_areLettersAt_b28] at h
      refine lv_iload hx hb dX0_areLettersAt_28 (lv_at hl 5 rfl) ?_
      refine lv_iload_n hx hb dX0_areLettersAt_30 rfl (lv_at hl 2 rfl) ?_
      refine lv_icmp_ge (tgt := 64) hx hb dX0_areLettersAt_31 (by decide) (fun hq31 => ?_) (fun hq31 => ?_)
      · replace h := jif_t hq31 h
        refine lv_iconst (v := 1) hx hb dX0_areLettersAt_64 (by decide) ?_
        exact j_iret (u := 1) (rv := (fun T => T)) (wv := (fun _ => (jw_Book_areLettersAt E q_this q_kinds q_strokeCounts q_strokes q_lengths q_letters q_arg3 n_arg3 c_size a_arg3 a_lengths a_letters))) h hQ hx hb hr jb_1 hlocks hS hP hD dX0_areLettersAt_65
      · replace h := jif_f hq31 h
        refine lv_aload_n hx hb dX0_areLettersAt_34 rfl (lv_at hl 3 rfl) ?_
        refine lv_iload hx hb dX0_areLettersAt_35 (lv_at hl 4 rfl) ?_
        refine lv_iload hx hb dX0_areLettersAt_37 (lv_at hl 5 rfl) ?_
        refine lv_iadd hx hb dX0_areLettersAt_39 ?_
        obtain ⟨g40, h⟩ := jga_e h
        refine va_bald hx hb hK.1 hP 1 0 rfl rfl g40 dX0_areLettersAt_40 ?_
        refine lv_aload_n hx hb dX0_areLettersAt_41 rfl (lv_at hl 0 rfl) ?_
        refine va_get (D := E.1) (ci := 0) (v := .ref q_letters) (C := RX0) (T := TX0) (N := 6) hx hb hts hin0 hown hK.1 hP 0 rfl rfl 4 (by decide) hk_24 (fun _ h9 => h9) rfl dX0_areLettersAt_42 ?_
        refine lv_iload_n hx hb dX0_areLettersAt_45 rfl (lv_at hl 1 rfl) ?_
        refine lv_bipush (v := 16) hx hb dX0_areLettersAt_46 (by decide) ?_
        refine lv_imul hx hb dX0_areLettersAt_48 ?_
        refine lv_iload hx hb dX0_areLettersAt_49 (lv_at hl 5 rfl) ?_
        refine lv_iadd hx hb dX0_areLettersAt_51 ?_
        obtain ⟨g52, h⟩ := jga_e h
        refine va_bald hx hb hK.1 hP 3 0 rfl rfl g52 dX0_areLettersAt_52 ?_
        refine lv_icmp_eq (tgt := 58) hx hb dX0_areLettersAt_53 (by decide) (fun hq53 => ?_) (fun hq53 => ?_)
        · replace h := jif_t hq53 h
          refine lv_iinc (v := (x5 + 1)) (lv' := [(5, .int (x5 + 1)), (0, .ref q_this), (1, .int x1), (2, .int x2), (3, .ref q_arg3), (4, .int x4)]) hx hb dX0_areLettersAt_58 hl (k := 5) rfl rfl (by decide) rfl (fun ls hl => ?_)
          refine lv_goto (tgt := 28) hx hb dX0_areLettersAt_61 (by decide) ?_
          exact ih (x5 + 1) _ _ _ h hP hD hS (lv_sub hl [1, 2, 3, 4, 5, 0] rfl)
        · replace h := jif_f hq53 h
          refine lv_iconst (v := 0) hx hb dX0_areLettersAt_56 (by decide) ?_
          exact j_iret (u := 0) (rv := (fun T => T)) (wv := (fun _ => (jw_Book_areLettersAt E q_this q_kinds q_strokeCounts q_strokes q_lengths q_letters q_arg3 n_arg3 c_size a_arg3 a_lengths a_letters))) h hQ hx hb hr jb_0 hlocks hS hP hD dX0_areLettersAt_57
  unfold jf_Book_areLettersAt at h
  refine lv_iload_n hx hb dX0_areLettersAt_0 rfl (lv_at hl 2 rfl) ?_
  refine lv_aload_n hx hb dX0_areLettersAt_1 rfl (lv_at hl 0 rfl) ?_
  refine lv_iload_n hx hb dX0_areLettersAt_2 rfl (lv_at hl 1 rfl) ?_
  obtain ⟨r3, hf3, h⟩ := jbd h
  refine j_callVi (own := RX0) (As := [.int x1]) (rest := [.int x2]) hx hb hml hown hts hK hA hP hD hS (jc_Book_lengthOf l E q_this q_kinds q_strokeCounts q_strokes q_lengths q_letters c_size a_lengths x1 N hf3) gX0_areLettersAt_X0_lengthOf rfl ⟨rfl, rfl⟩ 1 (by decide +kernel) rfl rfl 0 0 rfl rfl [0, 2] [1, 3] [2, 0, 3, 1] rfl rfl rfl rfl rfl rfl rfl hl.1 rfl rfl dX0_areLettersAt_3 (fun H locs hP hD hS => ?_)
  replace hP : va_P E.1 vwCl (jw_Book_areLettersAt E q_this q_kinds q_strokeCounts q_strokes q_lengths q_letters q_arg3 n_arg3 c_size a_arg3 a_lengths a_letters) H := hP
  replace hD : va_D A (jw_Book_areLettersAt E q_this q_kinds q_strokeCounts q_strokes q_lengths q_letters q_arg3 n_arg3 c_size a_arg3 a_lengths a_letters) := hD
  refine lv_icmp_gt (tgt := 23) hx hb dX0_areLettersAt_6 (by decide) (fun hq6 => ?_) (fun hq6 => ?_)
  · replace h := jif_t hq6 h
    refine lv_iconst (v := 0) hx hb dX0_areLettersAt_23 (by decide) ?_
    exact j_iret (u := 0) (rv := (fun T => T)) (wv := (fun _ => (jw_Book_areLettersAt E q_this q_kinds q_strokeCounts q_strokes q_lengths q_letters q_arg3 n_arg3 c_size a_arg3 a_lengths a_letters))) h hQ hx hb hr jb_0 hlocks hS hP hD dX0_areLettersAt_24
  · replace h := jif_f hq6 h
    refine lv_iload hx hb dX0_areLettersAt_9 (lv_at hl 4 rfl) ?_
    refine lv_if_lt (tgt := 23) hx hb dX0_areLettersAt_11 (by decide) (fun hq11 => ?_) (fun hq11 => ?_)
    · replace h := jif_t hq11 h
      refine lv_iconst (v := 0) hx hb dX0_areLettersAt_23 (by decide) ?_
      exact j_iret (u := 0) (rv := (fun T => T)) (wv := (fun _ => (jw_Book_areLettersAt E q_this q_kinds q_strokeCounts q_strokes q_lengths q_letters q_arg3 n_arg3 c_size a_arg3 a_lengths a_letters))) h hQ hx hb hr jb_0 hlocks hS hP hD dX0_areLettersAt_24
    · replace h := jif_f hq11 h
      refine lv_iload hx hb dX0_areLettersAt_14 (lv_at hl 4 rfl) ?_
      refine lv_aload_n hx hb dX0_areLettersAt_16 rfl (lv_at hl 3 rfl) ?_
      refine va_alen hx hb hK.1 hP 1 0 rfl rfl (v := (nI n_arg3)) rfl dX0_areLettersAt_17 ?_
      refine lv_iload_n hx hb dX0_areLettersAt_18 rfl (lv_at hl 2 rfl) ?_
      refine lv_isub hx hb dX0_areLettersAt_19 ?_
      refine lv_icmp_le (tgt := 25) hx hb dX0_areLettersAt_20 (by decide) (fun hq20 => ?_) (fun hq20 => ?_)
      · replace h := jif_t hq20 h
        refine lv_iconst (v := 0) hx hb dX0_areLettersAt_25 (by decide) ?_
        refine lv_istore (lv' := [(5, .int 0), (0, .ref q_this), (1, .int x1), (2, .int x2), (3, .ref q_arg3), (4, .int x4)]) hx hb dX0_areLettersAt_26 hl (by decide) rfl (fun ls hl => ?_)
        exact kb28  N 0 _ _ _ h hP hD hS (lv_sub hl [1, 2, 3, 4, 5, 0] rfl)
      · replace h := jif_f hq20 h
        refine lv_iconst (v := 0) hx hb dX0_areLettersAt_23 (by decide) ?_
        exact j_iret (u := 0) (rv := (fun T => T)) (wv := (fun _ => (jw_Book_areLettersAt E q_this q_kinds q_strokeCounts q_strokes q_lengths q_letters q_arg3 n_arg3 c_size a_arg3 a_lengths a_letters))) h hQ hx hb hr jb_0 hlocks hS hP hD dX0_areLettersAt_24
abbrev jw_Chain_pickFor (E : jE) (q_this q_book q_costs q_picks q_book_kinds q_book_strokeCounts q_book_strokes q_book_lengths q_book_letters q_arg1 : Nat) (n_arg1 : Nat) (c_innerKind : Int32) (c_lastKind : Int32) (c_book_size : Int32) (a_arg1 : (Nat → Int32)) (a_book_kinds : (Nat → Int32)) (a_book_lengths : (Nat → Int32)) (a_book_letters : (Nat → Int32)) (a_book_strokeCounts : (Nat → Int32)) (a_costs : (Nat → Int32)) (a_picks : (Nat → Int32)) : va_W := [(q_this, .inr (1, [.ref q_book, .int c_innerKind, .int c_lastKind, .ref q_costs, .ref q_picks])), (q_book, .inr (0, [.ref q_book_kinds, .ref q_book_strokeCounts, .ref q_book_strokes, .ref q_book_lengths, .ref q_book_letters, .int c_book_size])), (q_arg1, .inl (E.2.1, n_arg1, .inl a_arg1)), (q_book_kinds, .inl (E.2.2.1, 60, .inl a_book_kinds)), (q_book_lengths, .inl (E.2.2.1, 60, .inl a_book_lengths)), (q_book_letters, .inl (E.2.1, 960, .inl a_book_letters)), (q_book_strokeCounts, .inl (E.2.2.1, 60, .inl a_book_strokeCounts)), (q_costs, .inl (E.2.2.1, 60, .inl a_costs)), (q_picks, .inl (E.2.2.1, 60, .inl a_picks))]
def jr_Chain_pickFor : Room := { frames := 2, cells := 0, slots := 0, locals := 47 }
set_option maxHeartbeats 4000000 in
set_option maxRecDepth 100000 in
theorem jc_Chain_pickFor (l : Launch) (E : jE) (q_this q_book q_costs q_picks q_book_kinds q_book_strokeCounts q_book_strokes q_book_lengths q_book_letters q_arg1 : Nat) (n_arg1 : Nat) (c_innerKind : Int32) (c_lastKind : Int32) (c_book_size : Int32) (a_arg1 : (Nat → Int32)) (a_book_kinds : (Nat → Int32)) (a_book_lengths : (Nat → Int32)) (a_book_letters : (Nat → Int32)) (a_book_strokeCounts : (Nat → Int32)) (a_costs : (Nat → Int32)) (a_picks : (Nat → Int32)) (x2 : Int32) (x3 : Int32) (N : Nat) {T : (Nat → Int32) × (Nat → Int32)} (h : jf_Chain_pickFor N x2 x3 n_arg1 c_innerKind c_lastKind c_book_size a_arg1 a_book_kinds a_book_lengths a_book_letters a_book_strokeCounts a_costs a_picks = some T) : jMv l yX1_pickFor wsX1_pickFor jr_Chain_pickFor E [.ref q_this, .ref q_arg1, .int x2, .int x3] (jw_Chain_pickFor E q_this q_book q_costs q_picks q_book_kinds q_book_strokeCounts q_book_strokes q_book_lengths q_book_letters q_arg1 n_arg1 c_innerKind c_lastKind c_book_size a_arg1 a_book_kinds a_book_lengths a_book_letters a_book_strokeCounts a_costs a_picks) (jw_Chain_pickFor E q_this q_book q_costs q_picks q_book_kinds q_book_strokeCounts q_book_strokes q_book_lengths q_book_letters q_arg1 n_arg1 c_innerKind c_lastKind c_book_size a_arg1 a_book_kinds a_book_lengths a_book_letters a_book_strokeCounts T.1 T.2) := by
  refine jMv.begin (cc := cX1_pickFor) (maxL := 6) (ret := none) (by decide) rfl (Nat.le_of_ble_eq_true rfl) ?_
  intro p e s m args below meth c A ls Q hQ hx hb hr hml hown hlocks hts hK hA hP hD hS hl
  replace hown : s.vm.findClass RX1 = some m.cls := hown
  replace hl : lv_has ls 6 [(0, .ref q_this), (1, .ref q_arg1), (2, .int x2), (3, .int x3)] := hl
  have hin1 : ∀ w ∈ u_ws RX1 TX1 5, w ∈ wsX1_pickFor := by decide +kernel
  have hk_9 := hts (.fieldLink RX1 9 "StenoRoom$Chain" "costs" "[I") (by decide +kernel)
  have hk_15 := hts (.fieldLink RX1 15 "StenoRoom$Chain" "picks" "[I") (by decide +kernel)
  have hk_18 := hts (.fieldLink RX1 18 "StenoRoom$Chain" "book" "LStenoRoom$Book;") (by decide +kernel)
  have kb100 : ∀ (k18 : Int32 → (Nat → Int32) → (Nat → Int32) → Option ((Nat → Int32) × (Nat → Int32))) (hk18 : ∀ (x4 : Int32) (a_costs : (Nat → Int32)) (a_picks : (Nat → Int32)) (H : Heap) (locs : List Loc) (ls : Array Slot), k18 x4 a_costs a_picks = some T → va_P E.1 vwCl (jw_Chain_pickFor E q_this q_book q_costs q_picks q_book_kinds q_book_strokeCounts q_book_strokes q_book_lengths q_book_letters q_arg1 n_arg1 c_innerKind c_lastKind c_book_size a_arg1 a_book_kinds a_book_lengths a_book_letters a_book_strokeCounts a_costs a_picks) H → va_D A (jw_Chain_pickFor E q_this q_book q_costs q_picks q_book_kinds q_book_strokeCounts q_book_strokes q_book_lengths q_book_letters q_arg1 n_arg1 c_innerKind c_lastKind c_book_size a_arg1 a_book_kinds a_book_lengths a_book_letters a_book_strokeCounts a_costs a_picks) → va_S A s.heap H locs → lv_has ls 6 [(0, .ref q_this), (1, .ref q_arg1), (2, .int x2), (3, .int x3), (4, .int x4)] → W p l e jr_Chain_pickFor s m args below meth c H locs 0 0 Q (F0 m 18 ls [])) (x4 : Int32) (a_costs : (Nat → Int32)) (a_picks : (Nat → Int32)) (H : Heap) (locs : List Loc) (ls : Array Slot), jf_Chain_pickFor_b100 k18 x4 a_costs a_picks = some T → va_P E.1 vwCl (jw_Chain_pickFor E q_this q_book q_costs q_picks q_book_kinds q_book_strokeCounts q_book_strokes q_book_lengths q_book_letters q_arg1 n_arg1 c_innerKind c_lastKind c_book_size a_arg1 a_book_kinds a_book_lengths a_book_letters a_book_strokeCounts a_costs a_picks) H → va_D A (jw_Chain_pickFor E q_this q_book q_costs q_picks q_book_kinds q_book_strokeCounts q_book_strokes q_book_lengths q_book_letters q_arg1 n_arg1 c_innerKind c_lastKind c_book_size a_arg1 a_book_kinds a_book_lengths a_book_letters a_book_strokeCounts a_costs a_picks) → va_S A s.heap H locs → lv_has ls 6 [(0, .ref q_this), (1, .ref q_arg1), (2, .int x2), (3, .int x3), (4, .int x4)] → W p l e jr_Chain_pickFor s m args below meth c H locs 0 0 Q (F0 m 100 ls []) := by
    intro k18 hk18 x4 a_costs a_picks H locs ls h hP hD hS hl
    unfold jf_Chain_pickFor_b100 at h
    refine lv_iinc (v := (x4 + 1)) (lv' := [(4, .int (x4 + 1)), (0, .ref q_this), (1, .ref q_arg1), (2, .int x2), (3, .int x3)]) hx hb dX1_pickFor_100 hl (k := 4) rfl rfl (by decide) rfl (fun ls hl => ?_)
    refine lv_goto (tgt := 18) hx hb dX1_pickFor_103 (by decide) ?_
    exact hk18 (x4 + 1) a_costs a_picks _ _ _ h hP hD hS (lv_sub hl [1, 2, 3, 4, 0] rfl)
  have kb18 : ∀ (n : Nat) (x4 : Int32) (a_costs : (Nat → Int32)) (a_picks : (Nat → Int32)) (H : Heap) (locs : List Loc) (ls : Array Slot), jf_Chain_pickFor_b18 N x2 x3 n_arg1 c_innerKind c_lastKind c_book_size a_arg1 a_book_kinds a_book_lengths a_book_letters a_book_strokeCounts n x4 a_costs a_picks = some T → va_P E.1 vwCl (jw_Chain_pickFor E q_this q_book q_costs q_picks q_book_kinds q_book_strokeCounts q_book_strokes q_book_lengths q_book_letters q_arg1 n_arg1 c_innerKind c_lastKind c_book_size a_arg1 a_book_kinds a_book_lengths a_book_letters a_book_strokeCounts a_costs a_picks) H → va_D A (jw_Chain_pickFor E q_this q_book q_costs q_picks q_book_kinds q_book_strokeCounts q_book_strokes q_book_lengths q_book_letters q_arg1 n_arg1 c_innerKind c_lastKind c_book_size a_arg1 a_book_kinds a_book_lengths a_book_letters a_book_strokeCounts a_costs a_picks) → va_S A s.heap H locs → lv_has ls 6 [(0, .ref q_this), (1, .ref q_arg1), (2, .int x2), (3, .int x3), (4, .int x4)] → W p l e jr_Chain_pickFor s m args below meth c H locs 0 0 Q (F0 m 18 ls []) := by
    intro n
    induction n with
    | zero => intro x4 a_costs a_picks H locs ls h; exact j_none (α := (Nat → Int32) × (Nat → Int32)) h
    | succ n ih =>
      intro x4 a_costs a_picks H locs ls h hP hD hS hl
      rw [jf_Chain_pickFor_b18] at h
      refine lv_iload hx hb dX1_pickFor_18 (lv_at hl 4 rfl) ?_
      refine lv_aload_n hx hb dX1_pickFor_20 rfl (lv_at hl 0 rfl) ?_
      refine va_get (D := E.1) (ci := 1) (v := .ref q_book) (C := RX1) (T := TX1) (N := 5) hx hb hts hin1 hown hK.1 hP 0 rfl rfl 0 (by decide) hk_18 (fun _ h9 => h9) rfl dX1_pickFor_21 ?_
      obtain ⟨r24, hf24, h⟩ := jbd h
      refine j_callVi (own := RX1) (As := []) (rest := [.int x4]) hx hb hml hown hts hK hA hP hD hS (jc_Book_size l E q_book q_book_kinds q_book_strokeCounts q_book_strokes q_book_lengths q_book_letters c_book_size N hf24) gX1_pickFor_X0_size rfl ⟨rfl, rfl⟩ 0 (by decide +kernel) rfl rfl 1 0 rfl rfl [1] [0, 2, 3, 4, 5, 6, 7, 8] [0, 8, 1, 2, 3, 4, 5, 6, 7] rfl rfl rfl rfl rfl rfl rfl hl.1 rfl rfl dX1_pickFor_24 (fun H locs hP hD hS => ?_)
      replace hP : va_P E.1 vwCl (jw_Chain_pickFor E q_this q_book q_costs q_picks q_book_kinds q_book_strokeCounts q_book_strokes q_book_lengths q_book_letters q_arg1 n_arg1 c_innerKind c_lastKind c_book_size a_arg1 a_book_kinds a_book_lengths a_book_letters a_book_strokeCounts a_costs a_picks) H := hP
      replace hD : va_D A (jw_Chain_pickFor E q_this q_book q_costs q_picks q_book_kinds q_book_strokeCounts q_book_strokes q_book_lengths q_book_letters q_arg1 n_arg1 c_innerKind c_lastKind c_book_size a_arg1 a_book_kinds a_book_lengths a_book_letters a_book_strokeCounts a_costs a_picks) := hD
      refine lv_icmp_ge (tgt := 106) hx hb dX1_pickFor_27 (by decide) (fun hq27 => ?_) (fun hq27 => ?_)
      · replace h := jif_t hq27 h
        exact j_vret (u := (a_costs, a_picks)) (wv := (fun T => (jw_Chain_pickFor E q_this q_book q_costs q_picks q_book_kinds q_book_strokeCounts q_book_strokes q_book_lengths q_book_letters q_arg1 n_arg1 c_innerKind c_lastKind c_book_size a_arg1 a_book_kinds a_book_lengths a_book_letters a_book_strokeCounts T.1 T.2))) h hQ hx hb hr hlocks hS hP hD dX1_pickFor_106
      · replace h := jif_f hq27 h
        refine lv_aload_n hx hb dX1_pickFor_30 rfl (lv_at hl 0 rfl) ?_
        refine lv_iload hx hb dX1_pickFor_31 (lv_at hl 4 rfl) ?_
        refine lv_iload_n hx hb dX1_pickFor_33 rfl (lv_at hl 2 rfl) ?_
        refine lv_aload_n hx hb dX1_pickFor_34 rfl (lv_at hl 0 rfl) ?_
        refine va_get (D := E.1) (ci := 1) (v := .ref q_book) (C := RX1) (T := TX1) (N := 5) hx hb hts hin1 hown hK.1 hP 0 rfl rfl 0 (by decide) hk_18 (fun _ h9 => h9) rfl dX1_pickFor_35 ?_
        refine lv_iload hx hb dX1_pickFor_38 (lv_at hl 4 rfl) ?_
        obtain ⟨r40, hf40, h⟩ := jbd h
        refine j_callVi (own := RX1) (As := [.int x4]) (rest := [.int x2, .int x4, .ref q_this]) hx hb hml hown hts hK hA hP hD hS (jc_Book_lengthOf l E q_book q_book_kinds q_book_strokeCounts q_book_strokes q_book_lengths q_book_letters c_book_size a_book_lengths x4 N hf40) gX1_pickFor_X0_lengthOf rfl ⟨rfl, rfl⟩ 1 (by decide +kernel) rfl rfl 1 0 rfl rfl [1, 4] [0, 2, 3, 5, 6, 7, 8] [0, 7, 1, 2, 8, 3, 4, 5, 6] rfl rfl rfl rfl rfl rfl rfl hl.1 rfl rfl dX1_pickFor_40 (fun H locs hP hD hS => ?_)
        replace hP : va_P E.1 vwCl (jw_Chain_pickFor E q_this q_book q_costs q_picks q_book_kinds q_book_strokeCounts q_book_strokes q_book_lengths q_book_letters q_arg1 n_arg1 c_innerKind c_lastKind c_book_size a_arg1 a_book_kinds a_book_lengths a_book_letters a_book_strokeCounts a_costs a_picks) H := hP
        replace hD : va_D A (jw_Chain_pickFor E q_this q_book q_costs q_picks q_book_kinds q_book_strokeCounts q_book_strokes q_book_lengths q_book_letters q_arg1 n_arg1 c_innerKind c_lastKind c_book_size a_arg1 a_book_kinds a_book_lengths a_book_letters a_book_strokeCounts a_costs a_picks) := hD
        refine lv_iadd hx hb dX1_pickFor_43 ?_
        refine lv_iload_n hx hb dX1_pickFor_44 rfl (lv_at hl 3 rfl) ?_
        obtain ⟨r45, hf45, h⟩ := jbd h
        refine j_callVi (own := RX1) (As := [.int x4, .int (x2 + r40), .int x3]) (rest := []) hx hb hml hown hts hK hA hP hD hS (jc_Chain_costThrough l E q_this q_book q_costs q_picks q_book_kinds q_book_strokeCounts q_book_strokes q_book_lengths q_book_letters c_innerKind c_lastKind c_book_size a_book_kinds a_book_strokeCounts a_costs x4 (x2 + r40) x3 N hf45) gX1_pickFor_X1_costThrough rfl ⟨rfl, rfl⟩ 3 (by decide +kernel) rfl rfl 0 1 rfl rfl [0, 1, 3, 6, 7] [2, 4, 5, 8] [4, 5, 0, 6, 1, 2, 7, 8, 3] rfl rfl rfl rfl rfl rfl rfl hl.1 rfl rfl dX1_pickFor_45 (fun H locs hP hD hS => ?_)
        replace hP : va_P E.1 vwCl (jw_Chain_pickFor E q_this q_book q_costs q_picks q_book_kinds q_book_strokeCounts q_book_strokes q_book_lengths q_book_letters q_arg1 n_arg1 c_innerKind c_lastKind c_book_size a_arg1 a_book_kinds a_book_lengths a_book_letters a_book_strokeCounts a_costs a_picks) H := hP
        replace hD : va_D A (jw_Chain_pickFor E q_this q_book q_costs q_picks q_book_kinds q_book_strokeCounts q_book_strokes q_book_lengths q_book_letters q_arg1 n_arg1 c_innerKind c_lastKind c_book_size a_arg1 a_book_kinds a_book_lengths a_book_letters a_book_strokeCounts a_costs a_picks) := hD
        refine lv_istore (lv' := [(5, .int r45), (0, .ref q_this), (1, .ref q_arg1), (2, .int x2), (3, .int x3), (4, .int x4)]) hx hb dX1_pickFor_48 hl (by decide) rfl (fun ls hl => ?_)
        refine lv_iload hx hb dX1_pickFor_50 (lv_at hl 0 rfl) ?_
        refine lv_aload_n hx hb dX1_pickFor_52 rfl (lv_at hl 1 rfl) ?_
        refine va_get (D := E.1) (ci := 1) (v := .ref q_costs) (C := RX1) (T := TX1) (N := 5) hx hb hts hin1 hown hK.1 hP 0 rfl rfl 3 (by decide) hk_9 (fun _ h9 => h9) rfl dX1_pickFor_53 ?_
        refine lv_iload_n hx hb dX1_pickFor_56 rfl (lv_at hl 3 rfl) ?_
        obtain ⟨g57, h⟩ := jga_e h
        refine va_iald hx hb hK.1 hP 7 1 rfl rfl g57 dX1_pickFor_57 ?_
        refine lv_icmp_ge (tgt := 100) hx hb dX1_pickFor_58 (by decide) (fun hq58 => ?_) (fun hq58 => ?_)
        · replace h := jif_t hq58 h
          exact kb100 (jf_Chain_pickFor_b18 N x2 x3 n_arg1 c_innerKind c_lastKind c_book_size a_arg1 a_book_kinds a_book_lengths a_book_letters a_book_strokeCounts n) ih  x4 a_costs a_picks _ _ _ h hP hD hS (lv_sub hl [1, 2, 3, 4, 5] rfl)
        · replace h := jif_f hq58 h
          refine lv_aload_n hx hb dX1_pickFor_61 rfl (lv_at hl 1 rfl) ?_
          refine va_get (D := E.1) (ci := 1) (v := .ref q_book) (C := RX1) (T := TX1) (N := 5) hx hb hts hin1 hown hK.1 hP 0 rfl rfl 0 (by decide) hk_18 (fun _ h9 => h9) rfl dX1_pickFor_62 ?_
          refine lv_iload hx hb dX1_pickFor_65 (lv_at hl 5 rfl) ?_
          refine lv_aload_n hx hb dX1_pickFor_67 rfl (lv_at hl 1 rfl) ?_
          refine va_get (D := E.1) (ci := 1) (v := .ref q_book) (C := RX1) (T := TX1) (N := 5) hx hb hts hin1 hown hK.1 hP 0 rfl rfl 0 (by decide) hk_18 (fun _ h9 => h9) rfl dX1_pickFor_68 ?_
          refine lv_iload hx hb dX1_pickFor_71 (lv_at hl 5 rfl) ?_
          obtain ⟨r73, hf73, h⟩ := jbd h
          refine j_callVi (own := RX1) (As := [.int x4]) (rest := [.int x4, .ref q_book]) hx hb hml hown hts hK hA hP hD hS (jc_Book_lengthOf l E q_book q_book_kinds q_book_strokeCounts q_book_strokes q_book_lengths q_book_letters c_book_size a_book_lengths x4 N hf73) gX1_pickFor_X0_lengthOf rfl ⟨rfl, rfl⟩ 1 (by decide +kernel) rfl rfl 1 0 rfl rfl [1, 4] [0, 2, 3, 5, 6, 7, 8] [0, 7, 1, 2, 8, 3, 4, 5, 6] rfl rfl rfl rfl rfl rfl rfl hl.1 rfl rfl dX1_pickFor_73 (fun H locs hP hD hS => ?_)
          replace hP : va_P E.1 vwCl (jw_Chain_pickFor E q_this q_book q_costs q_picks q_book_kinds q_book_strokeCounts q_book_strokes q_book_lengths q_book_letters q_arg1 n_arg1 c_innerKind c_lastKind c_book_size a_arg1 a_book_kinds a_book_lengths a_book_letters a_book_strokeCounts a_costs a_picks) H := hP
          replace hD : va_D A (jw_Chain_pickFor E q_this q_book q_costs q_picks q_book_kinds q_book_strokeCounts q_book_strokes q_book_lengths q_book_letters q_arg1 n_arg1 c_innerKind c_lastKind c_book_size a_arg1 a_book_kinds a_book_lengths a_book_letters a_book_strokeCounts a_costs a_picks) := hD
          refine lv_aload_n hx hb dX1_pickFor_76 rfl (lv_at hl 2 rfl) ?_
          refine lv_iload_n hx hb dX1_pickFor_77 rfl (lv_at hl 3 rfl) ?_
          obtain ⟨r78, hf78, h⟩ := jbd h
          refine j_callVi (own := RX1) (As := [.int x4, .int r73, .ref q_arg1, .int x2]) (rest := []) hx hb hml hown hts hK hA hP hD hS (jc_Book_areLettersAt l E q_book q_book_kinds q_book_strokeCounts q_book_strokes q_book_lengths q_book_letters q_arg1 n_arg1 c_book_size a_arg1 a_book_lengths a_book_letters x4 r73 x2 N hf78) gX1_pickFor_X0_areLettersAt rfl ⟨rfl, rfl⟩ 4 (by decide +kernel) rfl rfl 1 0 rfl rfl [1, 2, 4, 5] [0, 3, 6, 7, 8] [0, 5, 6, 1, 7, 8, 2, 3, 4] rfl rfl rfl rfl rfl rfl rfl hl.1 rfl rfl dX1_pickFor_78 (fun H locs hP hD hS => ?_)
          replace hP : va_P E.1 vwCl (jw_Chain_pickFor E q_this q_book q_costs q_picks q_book_kinds q_book_strokeCounts q_book_strokes q_book_lengths q_book_letters q_arg1 n_arg1 c_innerKind c_lastKind c_book_size a_arg1 a_book_kinds a_book_lengths a_book_letters a_book_strokeCounts a_costs a_picks) H := hP
          replace hD : va_D A (jw_Chain_pickFor E q_this q_book q_costs q_picks q_book_kinds q_book_strokeCounts q_book_strokes q_book_lengths q_book_letters q_arg1 n_arg1 c_innerKind c_lastKind c_book_size a_arg1 a_book_kinds a_book_lengths a_book_letters a_book_strokeCounts a_costs a_picks) := hD
          refine lv_if_eq (tgt := 100) hx hb dX1_pickFor_81 (by decide) (fun hq81 => ?_) (fun hq81 => ?_)
          · replace h := jif_t hq81 h
            exact kb100 (jf_Chain_pickFor_b18 N x2 x3 n_arg1 c_innerKind c_lastKind c_book_size a_arg1 a_book_kinds a_book_lengths a_book_letters a_book_strokeCounts n) ih  x4 a_costs a_picks _ _ _ h hP hD hS (lv_sub hl [1, 2, 3, 4, 5] rfl)
          · replace h := jif_f hq81 h
            refine lv_aload_n hx hb dX1_pickFor_84 rfl (lv_at hl 1 rfl) ?_
            refine va_get (D := E.1) (ci := 1) (v := .ref q_costs) (C := RX1) (T := TX1) (N := 5) hx hb hts hin1 hown hK.1 hP 0 rfl rfl 3 (by decide) hk_9 (fun _ h9 => h9) rfl dX1_pickFor_85 ?_
            refine lv_iload_n hx hb dX1_pickFor_88 rfl (lv_at hl 3 rfl) ?_
            refine lv_iload hx hb dX1_pickFor_89 (lv_at hl 0 rfl) ?_
            obtain ⟨g91, h⟩ := jga_e h
            refine va_iast hx hb hK.1 hP hD hS 7 1 rfl rfl g91 dX1_pickFor_91 (fun H locs hP hD hS => ?_)
            replace hP : va_P E.1 vwCl (jw_Chain_pickFor E q_this q_book q_costs q_picks q_book_kinds q_book_strokeCounts q_book_strokes q_book_lengths q_book_letters q_arg1 n_arg1 c_innerKind c_lastKind c_book_size a_arg1 a_book_kinds a_book_lengths a_book_letters a_book_strokeCounts (upd a_costs x2.toNatClampNeg r45) a_picks) H := hP
            replace hD : va_D A (jw_Chain_pickFor E q_this q_book q_costs q_picks q_book_kinds q_book_strokeCounts q_book_strokes q_book_lengths q_book_letters q_arg1 n_arg1 c_innerKind c_lastKind c_book_size a_arg1 a_book_kinds a_book_lengths a_book_letters a_book_strokeCounts (upd a_costs x2.toNatClampNeg r45) a_picks) := hD
            refine lv_aload_n hx hb dX1_pickFor_92 rfl (lv_at hl 1 rfl) ?_
            refine va_get (D := E.1) (ci := 1) (v := .ref q_picks) (C := RX1) (T := TX1) (N := 5) hx hb hts hin1 hown hK.1 hP 0 rfl rfl 4 (by decide) hk_15 (fun _ h9 => h9) rfl dX1_pickFor_93 ?_
            refine lv_iload_n hx hb dX1_pickFor_96 rfl (lv_at hl 3 rfl) ?_
            refine lv_iload hx hb dX1_pickFor_97 (lv_at hl 5 rfl) ?_
            obtain ⟨g99, h⟩ := jga_e h
            refine va_iast hx hb hK.1 hP hD hS 8 1 rfl rfl g99 dX1_pickFor_99 (fun H locs hP hD hS => ?_)
            replace hP : va_P E.1 vwCl (jw_Chain_pickFor E q_this q_book q_costs q_picks q_book_kinds q_book_strokeCounts q_book_strokes q_book_lengths q_book_letters q_arg1 n_arg1 c_innerKind c_lastKind c_book_size a_arg1 a_book_kinds a_book_lengths a_book_letters a_book_strokeCounts (upd a_costs x2.toNatClampNeg r45) (upd a_picks x2.toNatClampNeg x4)) H := hP
            replace hD : va_D A (jw_Chain_pickFor E q_this q_book q_costs q_picks q_book_kinds q_book_strokeCounts q_book_strokes q_book_lengths q_book_letters q_arg1 n_arg1 c_innerKind c_lastKind c_book_size a_arg1 a_book_kinds a_book_lengths a_book_letters a_book_strokeCounts (upd a_costs x2.toNatClampNeg r45) (upd a_picks x2.toNatClampNeg x4)) := hD
            exact kb100 (jf_Chain_pickFor_b18 N x2 x3 n_arg1 c_innerKind c_lastKind c_book_size a_arg1 a_book_kinds a_book_lengths a_book_letters a_book_strokeCounts n) ih  x4 (upd a_costs x2.toNatClampNeg r45) (upd a_picks x2.toNatClampNeg x4) _ _ _ h hP hD hS (lv_sub hl [1, 2, 3, 4, 5] rfl)
  unfold jf_Chain_pickFor at h
  refine lv_aload_n hx hb dX1_pickFor_0 rfl (lv_at hl 0 rfl) ?_
  refine va_get (D := E.1) (ci := 1) (v := .ref q_costs) (C := RX1) (T := TX1) (N := 5) hx hb hts hin1 hown hK.1 hP 0 rfl rfl 3 (by decide) hk_9 (fun _ h9 => h9) rfl dX1_pickFor_1 ?_
  refine lv_iload_n hx hb dX1_pickFor_4 rfl (lv_at hl 2 rfl) ?_
  refine lv_ldc (v := 2147483647) hx hb hown (hts (.constant RX1 29 2147483647) (by decide +kernel)) dX1_pickFor_5 ?_
  obtain ⟨g7, h⟩ := jga_e h
  refine va_iast hx hb hK.1 hP hD hS 7 1 rfl rfl g7 dX1_pickFor_7 (fun H locs hP hD hS => ?_)
  replace hP : va_P E.1 vwCl (jw_Chain_pickFor E q_this q_book q_costs q_picks q_book_kinds q_book_strokeCounts q_book_strokes q_book_lengths q_book_letters q_arg1 n_arg1 c_innerKind c_lastKind c_book_size a_arg1 a_book_kinds a_book_lengths a_book_letters a_book_strokeCounts (upd a_costs x2.toNatClampNeg 2147483647) a_picks) H := hP
  replace hD : va_D A (jw_Chain_pickFor E q_this q_book q_costs q_picks q_book_kinds q_book_strokeCounts q_book_strokes q_book_lengths q_book_letters q_arg1 n_arg1 c_innerKind c_lastKind c_book_size a_arg1 a_book_kinds a_book_lengths a_book_letters a_book_strokeCounts (upd a_costs x2.toNatClampNeg 2147483647) a_picks) := hD
  refine lv_aload_n hx hb dX1_pickFor_8 rfl (lv_at hl 0 rfl) ?_
  refine va_get (D := E.1) (ci := 1) (v := .ref q_picks) (C := RX1) (T := TX1) (N := 5) hx hb hts hin1 hown hK.1 hP 0 rfl rfl 4 (by decide) hk_15 (fun _ h9 => h9) rfl dX1_pickFor_9 ?_
  refine lv_iload_n hx hb dX1_pickFor_12 rfl (lv_at hl 2 rfl) ?_
  refine lv_iconst (v := (-1)) hx hb dX1_pickFor_13 (by decide) ?_
  obtain ⟨g14, h⟩ := jga_e h
  refine va_iast hx hb hK.1 hP hD hS 8 1 rfl rfl g14 dX1_pickFor_14 (fun H locs hP hD hS => ?_)
  replace hP : va_P E.1 vwCl (jw_Chain_pickFor E q_this q_book q_costs q_picks q_book_kinds q_book_strokeCounts q_book_strokes q_book_lengths q_book_letters q_arg1 n_arg1 c_innerKind c_lastKind c_book_size a_arg1 a_book_kinds a_book_lengths a_book_letters a_book_strokeCounts (upd a_costs x2.toNatClampNeg 2147483647) (upd a_picks x2.toNatClampNeg (-1))) H := hP
  replace hD : va_D A (jw_Chain_pickFor E q_this q_book q_costs q_picks q_book_kinds q_book_strokeCounts q_book_strokes q_book_lengths q_book_letters q_arg1 n_arg1 c_innerKind c_lastKind c_book_size a_arg1 a_book_kinds a_book_lengths a_book_letters a_book_strokeCounts (upd a_costs x2.toNatClampNeg 2147483647) (upd a_picks x2.toNatClampNeg (-1))) := hD
  refine lv_iconst (v := 0) hx hb dX1_pickFor_15 (by decide) ?_
  refine lv_istore (lv' := [(4, .int 0), (0, .ref q_this), (1, .ref q_arg1), (2, .int x2), (3, .int x3)]) hx hb dX1_pickFor_16 hl (by decide) rfl (fun ls hl => ?_)
  exact kb18  N 0 (upd a_costs x2.toNatClampNeg 2147483647) (upd a_picks x2.toNatClampNeg (-1)) _ _ _ h hP hD hS (lv_sub hl [1, 2, 3, 4, 0] rfl)
