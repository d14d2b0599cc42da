abbrev jw_Model_back (E : jE) (q_this q_tape q_taken q_strokeMany q_kind q_textMany q_strokes q_texts q_record q_itsEntry q_itsFirst q_text q_lengthAhead q_lengthBehind q_chord q_asked q_way q_wayStrokes q_wayMany q_best q_tried q_plan q_made q_trial q_two : Nat) (c_taped : Int32) (c_entries : Int32) (c_recorded : Int32) (c_translations : Int32) (c_length : Int32) (c_shift : Int32) (c_link : Int32) (c_chordMany : Int32) (c_lastMany : Int32) (c_bestMany : Int32) (c_bestStrokes : Int32) (c_triedMany : Int32) (c_triedStrokes : Int32) (c_planMany : Int32) (c_planStrokes : Int32) (c_madeMany : Int32) (c_madeStrokes : Int32) (c_isClear : Int32) (c_isPlanned : Int32) (a_record : (Nat → Int32)) : va_W := [(q_this, .inr (11, [.ref q_tape, .ref q_taken, .int c_taped, .int c_entries, .ref q_strokeMany, .ref q_kind, .ref q_textMany, .ref q_strokes, .ref q_texts, .ref q_record, .int c_recorded, .ref q_itsEntry, .ref q_itsFirst, .int c_translations, .ref q_text, .ref q_lengthAhead, .ref q_lengthBehind, .int c_length, .int c_shift, .int c_link, .ref q_chord, .int c_chordMany, .int c_lastMany, .ref q_asked, .ref q_way, .ref q_wayStrokes, .ref q_wayMany, .ref q_best, .ref q_tried, .ref q_plan, .ref q_made, .int c_bestMany, .int c_bestStrokes, .int c_triedMany, .int c_triedStrokes, .int c_planMany, .int c_planStrokes, .int c_madeMany, .int c_madeStrokes, .int c_isClear, .int c_isPlanned, .ref q_trial, .ref q_two])), (q_record, .inl (E.2.2.1, 300, .inl a_record))]
def jr_Model_back : Room := { frames := 0, cells := 0, slots := 0, locals := 0 }
set_option maxHeartbeats 4000000 in
set_option maxRecDepth 100000 in
theorem jc_Model_back (l : Launch) (E : jE) (q_this q_tape q_taken q_strokeMany q_kind q_textMany q_strokes q_texts q_record q_itsEntry q_itsFirst q_text q_lengthAhead q_lengthBehind q_chord q_asked q_way q_wayStrokes q_wayMany q_best q_tried q_plan q_made q_trial q_two : Nat) (c_taped : Int32) (c_entries : Int32) (c_recorded : Int32) (c_translations : Int32) (c_length : Int32) (c_shift : Int32) (c_link : Int32) (c_chordMany : Int32) (c_lastMany : Int32) (c_bestMany : Int32) (c_bestStrokes : Int32) (c_triedMany : Int32) (c_triedStrokes : Int32) (c_planMany : Int32) (c_planStrokes : Int32) (c_madeMany : Int32) (c_madeStrokes : Int32) (c_isClear : Int32) (c_isPlanned : Int32) (a_record : (Nat → Int32)) (N : Nat) {T : Int32 × Int32} (h : jf_Model_back a_record c_recorded = some T) : jMi l yX11_back wsX11_back jr_Model_back E [.ref q_this] (jw_Model_back E q_this q_tape q_taken q_strokeMany q_kind q_textMany q_strokes q_texts q_record q_itsEntry q_itsFirst q_text q_lengthAhead q_lengthBehind q_chord q_asked q_way q_wayStrokes q_wayMany q_best q_tried q_plan q_made q_trial q_two c_taped c_entries c_recorded c_translations c_length c_shift c_link c_chordMany c_lastMany c_bestMany c_bestStrokes c_triedMany c_triedStrokes c_planMany c_planStrokes c_madeMany c_madeStrokes c_isClear c_isPlanned a_record) (T.1) (jw_Model_back E q_this q_tape q_taken q_strokeMany q_kind q_textMany q_strokes q_texts q_record q_itsEntry q_itsFirst q_text q_lengthAhead q_lengthBehind q_chord q_asked q_way q_wayStrokes q_wayMany q_best q_tried q_plan q_made q_trial q_two c_taped c_entries T.2 c_translations c_length c_shift c_link c_chordMany c_lastMany c_bestMany c_bestStrokes c_triedMany c_triedStrokes c_planMany c_planStrokes c_madeMany c_madeStrokes c_isClear c_isPlanned a_record) := by
  refine jMi.begin (cc := cX11_back) (maxL := 1) (ret := (some .int)) (by decide) rfl (Nat.le_of_ble_eq_true rfl) ?_
  intro p e s m args below meth c A ls Q hQ hx hb hr hml hown hlocks hts hK hA hP hD hS hl
  replace hown : s.vm.findClass RX11 = some m.cls := hown
  replace hl : lv_has ls 1 [(0, .ref q_this)] := hl
  have hin11 : ∀ w ∈ u_ws RX11 TX11 43, w ∈ wsX11_back := by decide +kernel
  have hk_32 := hts (.fieldLink RX11 32 "StenoRoomModel" "record" "[I") (by decide +kernel)
  have hk_124 := hts (.fieldLink RX11 124 "StenoRoomModel" "recorded" "I") (by decide +kernel)
  unfold jf_Model_back at h
  refine lv_aload_n hx hb dX11_back_0 rfl (lv_at hl 0 rfl) ?_
  refine va_get (D := E.1) (ci := 11) (v := .int c_recorded) (C := RX11) (T := TX11) (N := 43) hx hb hts hin11 hown hK.1 hP 0 rfl rfl 10 (by decide) hk_124 (fun _ h9 => h9) rfl dX11_back_1 ?_
  refine lv_if_ne (tgt := 9) hx hb dX11_back_4 (by decide) (fun hq4 => ?_) (fun hq4 => ?_)
  · replace h := jif_f hq4 h
    refine lv_aload_n hx hb dX11_back_9 rfl (lv_at hl 0 rfl) ?_
    refine lv_aload_n hx hb dX11_back_10 rfl (lv_at hl 0 rfl) ?_
    refine va_get (D := E.1) (ci := 11) (v := .int c_recorded) (C := RX11) (T := TX11) (N := 43) hx hb hts hin11 hown hK.1 hP 0 rfl rfl 10 (by decide) hk_124 (fun _ h9 => h9) rfl dX11_back_11 ?_
    refine lv_iconst (v := 1) hx hb dX11_back_14 (by decide) ?_
    refine lv_isub hx hb dX11_back_15 ?_
    refine va_put (D := E.1) (ci := 11) (v := .int (c_recorded - 1)) (ty := .int) (C := RX11) (T := TX11) (N := 43) hx hb hts hin11 tyX11 tyX11_ok nmX11 hown hK.1 hP hD hS 0 rfl rfl 10 (by decide) hk_124 (fun _ h9 => h9) rfl (by decide +kernel) rfl rfl (Nat.le_of_ble_eq_true rfl) dX11_back_16 (fun H locs hP hD hS => ?_)
    replace hP : va_P E.1 vwCl (jw_Model_back E q_this q_tape q_taken q_strokeMany q_kind q_textMany q_strokes q_texts q_record q_itsEntry q_itsFirst q_text q_lengthAhead q_lengthBehind q_chord q_asked q_way q_wayStrokes q_wayMany q_best q_tried q_plan q_made q_trial q_two c_taped c_entries (c_recorded - 1) c_translations c_length c_shift c_link c_chordMany c_lastMany c_bestMany c_bestStrokes c_triedMany c_triedStrokes c_planMany c_planStrokes c_madeMany c_madeStrokes c_isClear c_isPlanned a_record) H := hP
    replace hD : va_D A (jw_Model_back E q_this q_tape q_taken q_strokeMany q_kind q_textMany q_strokes q_texts q_record q_itsEntry q_itsFirst q_text q_lengthAhead q_lengthBehind q_chord q_asked q_way q_wayStrokes q_wayMany q_best q_tried q_plan q_made q_trial q_two c_taped c_entries (c_recorded - 1) c_translations c_length c_shift c_link c_chordMany c_lastMany c_bestMany c_bestStrokes c_triedMany c_triedStrokes c_planMany c_planStrokes c_madeMany c_madeStrokes c_isClear c_isPlanned a_record) := hD
    refine lv_aload_n hx hb dX11_back_19 rfl (lv_at hl 0 rfl) ?_
    refine va_get (D := E.1) (ci := 11) (v := .ref q_record) (C := RX11) (T := TX11) (N := 43) hx hb hts hin11 hown hK.1 hP 0 rfl rfl 9 (by decide) hk_32 (fun _ h9 => h9) rfl dX11_back_20 ?_
    refine lv_aload_n hx hb dX11_back_23 rfl (lv_at hl 0 rfl) ?_
    refine va_get (D := E.1) (ci := 11) (v := .int (c_recorded - 1)) (C := RX11) (T := TX11) (N := 43) hx hb hts hin11 hown hK.1 hP 0 rfl rfl 10 (by decide) hk_124 (fun _ h9 => h9) rfl dX11_back_24 ?_
    obtain ⟨g27, h⟩ := jga_e h
    refine va_iald hx hb hK.1 hP 1 1 rfl rfl g27 dX11_back_27 ?_
    exact j_iret (u := ((a_record (c_recorded - 1).toNatClampNeg), (c_recorded - 1))) (rv := (fun T => T.1)) (wv := (fun T => (jw_Model_back E q_this q_tape q_taken q_strokeMany q_kind q_textMany q_strokes q_texts q_record q_itsEntry q_itsFirst q_text q_lengthAhead q_lengthBehind q_chord q_asked q_way q_wayStrokes q_wayMany q_best q_tried q_plan q_made q_trial q_two c_taped c_entries T.2 c_translations c_length c_shift c_link c_chordMany c_lastMany c_bestMany c_bestStrokes c_triedMany c_triedStrokes c_planMany c_planStrokes c_madeMany c_madeStrokes c_isClear c_isPlanned a_record))) h hQ hx hb hr rfl hlocks hS hP hD dX11_back_28
  · replace h := jif_t hq4 h
    refine lv_iconst (v := (-1)) hx hb dX11_back_7 (by decide) ?_
    exact j_iret (u := ((-1), c_recorded)) (rv := (fun T => T.1)) (wv := (fun T => (jw_Model_back E q_this q_tape q_taken q_strokeMany q_kind q_textMany q_strokes q_texts q_record q_itsEntry q_itsFirst q_text q_lengthAhead q_lengthBehind q_chord q_asked q_way q_wayStrokes q_wayMany q_best q_tried q_plan q_made q_trial q_two c_taped c_entries T.2 c_translations c_length c_shift c_link c_chordMany c_lastMany c_bestMany c_bestStrokes c_triedMany c_triedStrokes c_planMany c_planStrokes c_madeMany c_madeStrokes c_isClear c_isPlanned a_record))) h hQ hx hb hr rfl hlocks hS hP hD dX11_back_8
abbrev jw_Model_correct (E : jE) (q_this q_tape q_taken q_strokeMany q_kind q_textMany q_strokes q_texts q_record q_itsEntry q_itsFirst q_text q_lengthAhead q_lengthBehind q_chord q_asked q_way q_wayStrokes q_wayMany q_best q_tried q_plan q_made q_trial q_two : Nat) (c_taped : Int32) (c_entries : Int32) (c_recorded : Int32) (c_translations : Int32) (c_length : Int32) (c_shift : Int32) (c_link : Int32) (c_chordMany : Int32) (c_lastMany : Int32) (c_bestMany : Int32) (c_bestStrokes : Int32) (c_triedMany : Int32) (c_triedStrokes : Int32) (c_planMany : Int32) (c_planStrokes : Int32) (c_madeMany : Int32) (c_madeStrokes : Int32) (c_isClear : Int32) (c_isPlanned : Int32) (a_record : (Nat → Int32)) : va_W := [(q_this, .inr (11, [.ref q_tape, .ref q_taken, .int c_taped, .int c_entries, .ref q_strokeMany, .ref q_kind, .ref q_textMany, .ref q_strokes, .ref q_texts, .ref q_record, .int c_recorded, .ref q_itsEntry, .ref q_itsFirst, .int c_translations, .ref q_text, .ref q_lengthAhead, .ref q_lengthBehind, .int c_length, .int c_shift, .int c_link, .ref q_chord, .int c_chordMany, .int c_lastMany, .ref q_asked, .ref q_way, .ref q_wayStrokes, .ref q_wayMany, .ref q_best, .ref q_tried, .ref q_plan, .ref q_made, .int c_bestMany, .int c_bestStrokes, .int c_triedMany, .int c_triedStrokes, .int c_planMany, .int c_planStrokes, .int c_madeMany, .int c_madeStrokes, .int c_isClear, .int c_isPlanned, .ref q_trial, .ref q_two])), (q_record, .inl (E.2.2.1, 300, .inl a_record))]
def jr_Model_correct : Room := { frames := 1, cells := 0, slots := 0, locals := 20 }
set_option maxHeartbeats 4000000 in
set_option maxRecDepth 100000 in
theorem jc_Model_correct (l : Launch) (E : jE) (q_this q_tape q_taken q_strokeMany q_kind q_textMany q_strokes q_texts q_record q_itsEntry q_itsFirst q_text q_lengthAhead q_lengthBehind q_chord q_asked q_way q_wayStrokes q_wayMany q_best q_tried q_plan q_made q_trial q_two : Nat) (c_taped : Int32) (c_entries : Int32) (c_recorded : Int32) (c_translations : Int32) (c_length : Int32) (c_shift : Int32) (c_link : Int32) (c_chordMany : Int32) (c_lastMany : Int32) (c_bestMany : Int32) (c_bestStrokes : Int32) (c_triedMany : Int32) (c_triedStrokes : Int32) (c_planMany : Int32) (c_planStrokes : Int32) (c_madeMany : Int32) (c_madeStrokes : Int32) (c_isClear : Int32) (c_isPlanned : Int32) (a_record : (Nat → Int32)) (x1 : Int32) (x2 : Int32) (N : Nat) {T : Int32 × (Nat → Int32)} (h : jf_Model_correct x1 x2 c_recorded a_record = some T) : jMi l yX11_correct wsX11_correct jr_Model_correct E [.ref q_this, .int x1, .int x2] (jw_Model_correct E q_this q_tape q_taken q_strokeMany q_kind q_textMany q_strokes q_texts q_record q_itsEntry q_itsFirst q_text q_lengthAhead q_lengthBehind q_chord q_asked q_way q_wayStrokes q_wayMany q_best q_tried q_plan q_made q_trial q_two c_taped c_entries c_recorded c_translations c_length c_shift c_link c_chordMany c_lastMany c_bestMany c_bestStrokes c_triedMany c_triedStrokes c_planMany c_planStrokes c_madeMany c_madeStrokes c_isClear c_isPlanned a_record) (T.1) (jw_Model_correct E q_this q_tape q_taken q_strokeMany q_kind q_textMany q_strokes q_texts q_record q_itsEntry q_itsFirst q_text q_lengthAhead q_lengthBehind q_chord q_asked q_way q_wayStrokes q_wayMany q_best q_tried q_plan q_made q_trial q_two c_taped c_entries c_recorded c_translations c_length c_shift c_link c_chordMany c_lastMany c_bestMany c_bestStrokes c_triedMany c_triedStrokes c_planMany c_planStrokes c_madeMany c_madeStrokes c_isClear c_isPlanned T.2) := by
  refine jMi.begin (cc := cX11_correct) (maxL := 3) (ret := (some .boolean)) (by decide) rfl (Nat.le_of_ble_eq_true rfl) ?_
  intro p e s m args below meth c A ls Q hQ hx hb hr hml hown hlocks hts hK hA hP hD hS hl
  replace hown : s.vm.findClass RX11 = some m.cls := hown
  replace hl : lv_has ls 3 [(0, .ref q_this), (1, .int x1), (2, .int x2)] := hl
  have hin11 : ∀ w ∈ u_ws RX11 TX11 43, w ∈ wsX11_correct := by decide +kernel
  have hk_32 := hts (.fieldLink RX11 32 "StenoRoomModel" "record" "[I") (by decide +kernel)
  have hk_124 := hts (.fieldLink RX11 124 "StenoRoomModel" "recorded" "I") (by decide +kernel)
  unfold jf_Model_correct at h
  refine lv_iload_n hx hb dX11_correct_0 rfl (lv_at hl 1 rfl) ?_
  refine lv_if_lt (tgt := 19) hx hb dX11_correct_1 (by decide) (fun hq1 => ?_) (fun hq1 => ?_)
  · replace h := jif_t hq1 h
    refine lv_iconst (v := 0) hx hb dX11_correct_19 (by decide) ?_
    exact j_iret (u := (0, a_record)) (rv := (fun T => T.1)) (wv := (fun T => (jw_Model_correct E q_this q_tape q_taken q_strokeMany q_kind q_textMany q_strokes q_texts q_record q_itsEntry q_itsFirst q_text q_lengthAhead q_lengthBehind q_chord q_asked q_way q_wayStrokes q_wayMany q_best q_tried q_plan q_made q_trial q_two c_taped c_entries c_recorded c_translations c_length c_shift c_link c_chordMany c_lastMany c_bestMany c_bestStrokes c_triedMany c_triedStrokes c_planMany c_planStrokes c_madeMany c_madeStrokes c_isClear c_isPlanned T.2))) h hQ hx hb hr jb_0 hlocks hS hP hD dX11_correct_20
  · replace h := jif_f hq1 h
    refine lv_iload_n hx hb dX11_correct_4 rfl (lv_at hl 1 rfl) ?_
    refine lv_aload_n hx hb dX11_correct_5 rfl (lv_at hl 0 rfl) ?_
    refine va_get (D := E.1) (ci := 11) (v := .int c_recorded) (C := RX11) (T := TX11) (N := 43) hx hb hts hin11 hown hK.1 hP 0 rfl rfl 10 (by decide) hk_124 (fun _ h9 => h9) rfl dX11_correct_6 ?_
    refine lv_icmp_ge (tgt := 19) hx hb dX11_correct_9 (by decide) (fun hq9 => ?_) (fun hq9 => ?_)
    · replace h := jif_t hq9 h
      refine lv_iconst (v := 0) hx hb dX11_correct_19 (by decide) ?_
      exact j_iret (u := (0, a_record)) (rv := (fun T => T.1)) (wv := (fun T => (jw_Model_correct E q_this q_tape q_taken q_strokeMany q_kind q_textMany q_strokes q_texts q_record q_itsEntry q_itsFirst q_text q_lengthAhead q_lengthBehind q_chord q_asked q_way q_wayStrokes q_wayMany q_best q_tried q_plan q_made q_trial q_two c_taped c_entries c_recorded c_translations c_length c_shift c_link c_chordMany c_lastMany c_bestMany c_bestStrokes c_triedMany c_triedStrokes c_planMany c_planStrokes c_madeMany c_madeStrokes c_isClear c_isPlanned T.2))) h hQ hx hb hr jb_0 hlocks hS hP hD dX11_correct_20
    · replace h := jif_f hq9 h
      refine lv_iload_n hx hb dX11_correct_12 rfl (lv_at hl 2 rfl) ?_
      obtain ⟨r13, hf13, h⟩ := jbd h
      refine j_callSi (own := RX11) (As := [.int x2]) (rest := []) hx hb hml hown hts hK hA hP hD hS (jc_Model_isStroke l E x2 N hf13) gX11_correct_X11_isStroke rfl ⟨rfl, rfl⟩ 1 (by decide +kernel) rfl rfl [] [0, 1] [0, 1] rfl rfl rfl rfl rfl rfl rfl hl.1 rfl rfl dX11_correct_13 (fun H locs hP hD hS => ?_)
      replace hP : va_P E.1 vwCl (jw_Model_correct E q_this q_tape q_taken q_strokeMany q_kind q_textMany q_strokes q_texts q_record q_itsEntry q_itsFirst q_text q_lengthAhead q_lengthBehind q_chord q_asked q_way q_wayStrokes q_wayMany q_best q_tried q_plan q_made q_trial q_two c_taped c_entries c_recorded c_translations c_length c_shift c_link c_chordMany c_lastMany c_bestMany c_bestStrokes c_triedMany c_triedStrokes c_planMany c_planStrokes c_madeMany c_madeStrokes c_isClear c_isPlanned a_record) H := hP
      replace hD : va_D A (jw_Model_correct E q_this q_tape q_taken q_strokeMany q_kind q_textMany q_strokes q_texts q_record q_itsEntry q_itsFirst q_text q_lengthAhead q_lengthBehind q_chord q_asked q_way q_wayStrokes q_wayMany q_best q_tried q_plan q_made q_trial q_two c_taped c_entries c_recorded c_translations c_length c_shift c_link c_chordMany c_lastMany c_bestMany c_bestStrokes c_triedMany c_triedStrokes c_planMany c_planStrokes c_madeMany c_madeStrokes c_isClear c_isPlanned a_record) := hD
      refine lv_if_ne (tgt := 21) hx hb dX11_correct_16 (by decide) (fun hq16 => ?_) (fun hq16 => ?_)
      · replace h := jif_f hq16 h
        refine lv_aload_n hx hb dX11_correct_21 rfl (lv_at hl 0 rfl) ?_
        refine va_get (D := E.1) (ci := 11) (v := .ref q_record) (C := RX11) (T := TX11) (N := 43) hx hb hts hin11 hown hK.1 hP 0 rfl rfl 9 (by decide) hk_32 (fun _ h9 => h9) rfl dX11_correct_22 ?_
        refine lv_iload_n hx hb dX11_correct_25 rfl (lv_at hl 1 rfl) ?_
        refine lv_iload_n hx hb dX11_correct_26 rfl (lv_at hl 2 rfl) ?_
        obtain ⟨g27, h⟩ := jga_e h
        refine va_iast hx hb hK.1 hP hD hS 1 1 rfl rfl g27 dX11_correct_27 (fun H locs hP hD hS => ?_)
        replace hP : va_P E.1 vwCl (jw_Model_correct E q_this q_tape q_taken q_strokeMany q_kind q_textMany q_strokes q_texts q_record q_itsEntry q_itsFirst q_text q_lengthAhead q_lengthBehind q_chord q_asked q_way q_wayStrokes q_wayMany q_best q_tried q_plan q_made q_trial q_two c_taped c_entries c_recorded c_translations c_length c_shift c_link c_chordMany c_lastMany c_bestMany c_bestStrokes c_triedMany c_triedStrokes c_planMany c_planStrokes c_madeMany c_madeStrokes c_isClear c_isPlanned (upd a_record x1.toNatClampNeg x2)) H := hP
        replace hD : va_D A (jw_Model_correct E q_this q_tape q_taken q_strokeMany q_kind q_textMany q_strokes q_texts q_record q_itsEntry q_itsFirst q_text q_lengthAhead q_lengthBehind q_chord q_asked q_way q_wayStrokes q_wayMany q_best q_tried q_plan q_made q_trial q_two c_taped c_entries c_recorded c_translations c_length c_shift c_link c_chordMany c_lastMany c_bestMany c_bestStrokes c_triedMany c_triedStrokes c_planMany c_planStrokes c_madeMany c_madeStrokes c_isClear c_isPlanned (upd a_record x1.toNatClampNeg x2)) := hD
        refine lv_iconst (v := 1) hx hb dX11_correct_28 (by decide) ?_
        exact j_iret (u := (1, (upd a_record x1.toNatClampNeg x2))) (rv := (fun T => T.1)) (wv := (fun T => (jw_Model_correct E q_this q_tape q_taken q_strokeMany q_kind q_textMany q_strokes q_texts q_record q_itsEntry q_itsFirst q_text q_lengthAhead q_lengthBehind q_chord q_asked q_way q_wayStrokes q_wayMany q_best q_tried q_plan q_made q_trial q_two c_taped c_entries c_recorded c_translations c_length c_shift c_link c_chordMany c_lastMany c_bestMany c_bestStrokes c_triedMany c_triedStrokes c_planMany c_planStrokes c_madeMany c_madeStrokes c_isClear c_isPlanned T.2))) h hQ hx hb hr jb_1 hlocks hS hP hD dX11_correct_29
      · replace h := jif_t hq16 h
        refine lv_iconst (v := 0) hx hb dX11_correct_19 (by decide) ?_
        exact j_iret (u := (0, a_record)) (rv := (fun T => T.1)) (wv := (fun T => (jw_Model_correct E q_this q_tape q_taken q_strokeMany q_kind q_textMany q_strokes q_texts q_record q_itsEntry q_itsFirst q_text q_lengthAhead q_lengthBehind q_chord q_asked q_way q_wayStrokes q_wayMany q_best q_tried q_plan q_made q_trial q_two c_taped c_entries c_recorded c_translations c_length c_shift c_link c_chordMany c_lastMany c_bestMany c_bestStrokes c_triedMany c_triedStrokes c_planMany c_planStrokes c_madeMany c_madeStrokes c_isClear c_isPlanned T.2))) h hQ hx hb hr jb_0 hlocks hS hP hD dX11_correct_20
abbrev jw_Model_insert (E : jE) (q_this q_tape q_taken q_strokeMany q_kind q_textMany q_strokes q_texts q_record q_itsEntry q_itsFirst q_text q_lengthAhead q_lengthBehind q_chord q_asked q_way q_wayStrokes q_wayMany q_best q_tried q_plan q_made q_trial q_two : Nat) (c_taped : Int32) (c_entries : Int32) (c_recorded : Int32) (c_translations : Int32) (c_length : Int32) (c_shift : Int32) (c_link : Int32) (c_chordMany : Int32) (c_lastMany : Int32) (c_bestMany : Int32) (c_bestStrokes : Int32) (c_triedMany : Int32) (c_triedStrokes : Int32) (c_planMany : Int32) (c_planStrokes : Int32) (c_madeMany : Int32) (c_madeStrokes : Int32) (c_isClear : Int32) (c_isPlanned : Int32) (a_record : (Nat → Int32)) : va_W := [(q_this, .inr (11, [.ref q_tape, .ref q_taken, .int c_taped, .int c_entries, .ref q_strokeMany, .ref q_kind, .ref q_textMany, .ref q_strokes, .ref q_texts, .ref q_record, .int c_recorded, .ref q_itsEntry, .ref q_itsFirst, .int c_translations, .ref q_text, .ref q_lengthAhead, .ref q_lengthBehind, .int c_length, .int c_shift, .int c_link, .ref q_chord, .int c_chordMany, .int c_lastMany, .ref q_asked, .ref q_way, .ref q_wayStrokes, .ref q_wayMany, .ref q_best, .ref q_tried, .ref q_plan, .ref q_made, .int c_bestMany, .int c_bestStrokes, .int c_triedMany, .int c_triedStrokes, .int c_planMany, .int c_planStrokes, .int c_madeMany, .int c_madeStrokes, .int c_isClear, .int c_isPlanned, .ref q_trial, .ref q_two])), (q_record, .inl (E.2.2.1, 300, .inl a_record))]
def jr_Model_insert : Room := { frames := 1, cells := 0, slots := 0, locals := 20 }
set_option maxHeartbeats 4000000 in
set_option maxRecDepth 100000 in
theorem jc_Model_insert (l : Launch) (E : jE) (q_this q_tape q_taken q_strokeMany q_kind q_textMany q_strokes q_texts q_record q_itsEntry q_itsFirst q_text q_lengthAhead q_lengthBehind q_chord q_asked q_way q_wayStrokes q_wayMany q_best q_tried q_plan q_made q_trial q_two : Nat) (c_taped : Int32) (c_entries : Int32) (c_recorded : Int32) (c_translations : Int32) (c_length : Int32) (c_shift : Int32) (c_link : Int32) (c_chordMany : Int32) (c_lastMany : Int32) (c_bestMany : Int32) (c_bestStrokes : Int32) (c_triedMany : Int32) (c_triedStrokes : Int32) (c_planMany : Int32) (c_planStrokes : Int32) (c_madeMany : Int32) (c_madeStrokes : Int32) (c_isClear : Int32) (c_isPlanned : Int32) (a_record : (Nat → Int32)) (x1 : Int32) (x2 : Int32) (N : Nat) {T : Int32 × Int32 × (Nat → Int32)} (h : jf_Model_insert N x1 x2 c_recorded a_record = some T) : jMi l yX11_insert wsX11_insert jr_Model_insert E [.ref q_this, .int x1, .int x2] (jw_Model_insert E q_this q_tape q_taken q_strokeMany q_kind q_textMany q_strokes q_texts q_record q_itsEntry q_itsFirst q_text q_lengthAhead q_lengthBehind q_chord q_asked q_way q_wayStrokes q_wayMany q_best q_tried q_plan q_made q_trial q_two c_taped c_entries c_recorded c_translations c_length c_shift c_link c_chordMany c_lastMany c_bestMany c_bestStrokes c_triedMany c_triedStrokes c_planMany c_planStrokes c_madeMany c_madeStrokes c_isClear c_isPlanned a_record) (T.1) (jw_Model_insert E q_this q_tape q_taken q_strokeMany q_kind q_textMany q_strokes q_texts q_record q_itsEntry q_itsFirst q_text q_lengthAhead q_lengthBehind q_chord q_asked q_way q_wayStrokes q_wayMany q_best q_tried q_plan q_made q_trial q_two c_taped c_entries T.2.1 c_translations c_length c_shift c_link c_chordMany c_lastMany c_bestMany c_bestStrokes c_triedMany c_triedStrokes c_planMany c_planStrokes c_madeMany c_madeStrokes c_isClear c_isPlanned T.2.2) := by
  refine jMi.begin (cc := cX11_insert) (maxL := 4) (ret := (some .boolean)) (by decide) rfl (Nat.le_of_ble_eq_true rfl) ?_
  intro p e s m args below meth c A ls Q hQ hx hb hr hml hown hlocks hts hK hA hP hD hS hl
  replace hown : s.vm.findClass RX11 = some m.cls := hown
  replace hl : lv_has ls 4 [(0, .ref q_this), (1, .int x1), (2, .int x2)] := hl
  have hin11 : ∀ w ∈ u_ws RX11 TX11 43, w ∈ wsX11_insert := by decide +kernel
  have hk_32 := hts (.fieldLink RX11 32 "StenoRoomModel" "record" "[I") (by decide +kernel)
  have hk_124 := hts (.fieldLink RX11 124 "StenoRoomModel" "recorded" "I") (by decide +kernel)
  have kb61 : ∀ (c_recorded : Int32) (a_record : (Nat → Int32)) (H : Heap) (locs : List Loc) (ls : Array Slot), jf_Model_insert_b61 x1 x2 c_recorded a_record = some T → va_P E.1 vwCl (jw_Model_insert E q_this q_tape q_taken q_strokeMany q_kind q_textMany q_strokes q_texts q_record q_itsEntry q_itsFirst q_text q_lengthAhead q_lengthBehind q_chord q_asked q_way q_wayStrokes q_wayMany q_best q_tried q_plan q_made q_trial q_two c_taped c_entries c_recorded c_translations c_length c_shift c_link c_chordMany c_lastMany c_bestMany c_bestStrokes c_triedMany c_triedStrokes c_planMany c_planStrokes c_madeMany c_madeStrokes c_isClear c_isPlanned a_record) H → va_D A (jw_Model_insert E q_this q_tape q_taken q_strokeMany q_kind q_textMany q_strokes q_texts q_record q_itsEntry q_itsFirst q_text q_lengthAhead q_lengthBehind q_chord q_asked q_way q_wayStrokes q_wayMany q_best q_tried q_plan q_made q_trial q_two c_taped c_entries c_recorded c_translations c_length c_shift c_link c_chordMany c_lastMany c_bestMany c_bestStrokes c_triedMany c_triedStrokes c_planMany c_planStrokes c_madeMany c_madeStrokes c_isClear c_isPlanned a_record) → va_S A s.heap H locs → lv_has ls 4 [(0, .ref q_this), (1, .int x1), (2, .int x2)] → W p l e jr_Model_insert s m args below meth c H locs 0 0 Q (F0 m 61 ls []) := by
    intro  c_recorded a_record H locs ls h hP hD hS hl
    unfold jf_Model_insert_b61 at h
    refine lv_aload_n hx hb dX11_insert_61 rfl (lv_at hl 0 rfl) ?_
    refine va_get (D := E.1) (ci := 11) (v := .ref q_record) (C := RX11) (T := TX11) (N := 43) hx hb hts hin11 hown hK.1 hP 0 rfl rfl 9 (by decide) hk_32 (fun _ h9 => h9) rfl dX11_insert_62 ?_
    refine lv_iload_n hx hb dX11_insert_65 rfl (lv_at hl 1 rfl) ?_
    refine lv_iload_n hx hb dX11_insert_66 rfl (lv_at hl 2 rfl) ?_
    obtain ⟨g67, h⟩ := jga_e h
    refine va_iast hx hb hK.1 hP hD hS 1 1 rfl rfl g67 dX11_insert_67 (fun H locs hP hD hS => ?_)
    replace hP : va_P E.1 vwCl (jw_Model_insert E q_this q_tape q_taken q_strokeMany q_kind q_textMany q_strokes q_texts q_record q_itsEntry q_itsFirst q_text q_lengthAhead q_lengthBehind q_chord q_asked q_way q_wayStrokes q_wayMany q_best q_tried q_plan q_made q_trial q_two c_taped c_entries c_recorded c_translations c_length c_shift c_link c_chordMany c_lastMany c_bestMany c_bestStrokes c_triedMany c_triedStrokes c_planMany c_planStrokes c_madeMany c_madeStrokes c_isClear c_isPlanned (upd a_record x1.toNatClampNeg x2)) H := hP
    replace hD : va_D A (jw_Model_insert E q_this q_tape q_taken q_strokeMany q_kind q_textMany q_strokes q_texts q_record q_itsEntry q_itsFirst q_text q_lengthAhead q_lengthBehind q_chord q_asked q_way q_wayStrokes q_wayMany q_best q_tried q_plan q_made q_trial q_two c_taped c_entries c_recorded c_translations c_length c_shift c_link c_chordMany c_lastMany c_bestMany c_bestStrokes c_triedMany c_triedStrokes c_planMany c_planStrokes c_madeMany c_madeStrokes c_isClear c_isPlanned (upd a_record x1.toNatClampNeg x2)) := hD
    refine lv_aload_n hx hb dX11_insert_68 rfl (lv_at hl 0 rfl) ?_
    refine lv_aload_n hx hb dX11_insert_69 rfl (lv_at hl 0 rfl) ?_
    refine va_get (D := E.1) (ci := 11) (v := .int c_recorded) (C := RX11) (T := TX11) (N := 43) hx hb hts hin11 hown hK.1 hP 0 rfl rfl 10 (by decide) hk_124 (fun _ h9 => h9) rfl dX11_insert_70 ?_
    refine lv_iconst (v := 1) hx hb dX11_insert_73 (by decide) ?_
    refine lv_iadd hx hb dX11_insert_74 ?_
    refine va_put (D := E.1) (ci := 11) (v := .int (c_recorded + 1)) (ty := .int) (C := RX11) (T := TX11) (N := 43) hx hb hts hin11 tyX11 tyX11_ok nmX11 hown hK.1 hP hD hS 0 rfl rfl 10 (by decide) hk_124 (fun _ h9 => h9) rfl (by decide +kernel) rfl rfl (Nat.le_of_ble_eq_true rfl) dX11_insert_75 (fun H locs hP hD hS => ?_)
    replace hP : va_P E.1 vwCl (jw_Model_insert E q_this q_tape q_taken q_strokeMany q_kind q_textMany q_strokes q_texts q_record q_itsEntry q_itsFirst q_text q_lengthAhead q_lengthBehind q_chord q_asked q_way q_wayStrokes q_wayMany q_best q_tried q_plan q_made q_trial q_two c_taped c_entries (c_recorded + 1) c_translations c_length c_shift c_link c_chordMany c_lastMany c_bestMany c_bestStrokes c_triedMany c_triedStrokes c_planMany c_planStrokes c_madeMany c_madeStrokes c_isClear c_isPlanned (upd a_record x1.toNatClampNeg x2)) H := hP
    replace hD : va_D A (jw_Model_insert E q_this q_tape q_taken q_strokeMany q_kind q_textMany q_strokes q_texts q_record q_itsEntry q_itsFirst q_text q_lengthAhead q_lengthBehind q_chord q_asked q_way q_wayStrokes q_wayMany q_best q_tried q_plan q_made q_trial q_two c_taped c_entries (c_recorded + 1) c_translations c_length c_shift c_link c_chordMany c_lastMany c_bestMany c_bestStrokes c_triedMany c_triedStrokes c_planMany c_planStrokes c_madeMany c_madeStrokes c_isClear c_isPlanned (upd a_record x1.toNatClampNeg x2)) := hD
    refine lv_iconst (v := 1) hx hb dX11_insert_78 (by decide) ?_
    exact j_iret (u := (1, (c_recorded + 1), (upd a_record x1.toNatClampNeg x2))) (rv := (fun T => T.1)) (wv := (fun T => (jw_Model_insert E q_this q_tape q_taken q_strokeMany q_kind q_textMany q_strokes q_texts q_record q_itsEntry q_itsFirst q_text q_lengthAhead q_lengthBehind q_chord q_asked q_way q_wayStrokes q_wayMany q_best q_tried q_plan q_made q_trial q_two c_taped c_entries T.2.1 c_translations c_length c_shift c_link c_chordMany c_lastMany c_bestMany c_bestStrokes c_triedMany c_triedStrokes c_planMany c_planStrokes c_madeMany c_madeStrokes c_isClear c_isPlanned T.2.2))) h hQ hx hb hr jb_1 hlocks hS hP hD dX11_insert_79
  have kb36 : ∀ (n : Nat) (x3 : Int32) (c_recorded : Int32) (a_record : (Nat → Int32)) (H : Heap) (locs : List Loc) (ls : Array Slot), jf_Model_insert_b36 x1 x2 n x3 c_recorded a_record = some T → va_P E.1 vwCl (jw_Model_insert E q_this q_tape q_taken q_strokeMany q_kind q_textMany q_strokes q_texts q_record q_itsEntry q_itsFirst q_text q_lengthAhead q_lengthBehind q_chord q_asked q_way q_wayStrokes q_wayMany q_best q_tried q_plan q_made q_trial q_two c_taped c_entries c_recorded c_translations c_length c_shift c_link c_chordMany c_lastMany c_bestMany c_bestStrokes c_triedMany c_triedStrokes c_planMany c_planStrokes c_madeMany c_madeStrokes c_isClear c_isPlanned a_record) H → va_D A (jw_Model_insert E q_this q_tape q_taken q_strokeMany q_kind q_textMany q_strokes q_texts q_record q_itsEntry q_itsFirst q_text q_lengthAhead q_lengthBehind q_chord q_asked q_way q_wayStrokes q_wayMany q_best q_tried q_plan q_made q_trial q_two c_taped c_entries c_recorded c_translations c_length c_shift c_link c_chordMany c_lastMany c_bestMany c_bestStrokes c_triedMany c_triedStrokes c_planMany c_planStrokes c_madeMany c_madeStrokes c_isClear c_isPlanned a_record) → va_S A s.heap H locs → lv_has ls 4 [(0, .ref q_this), (1, .int x1), (2, .int x2), (3, .int x3)] → W p l e jr_Model_insert s m args below meth c H locs 0 0 Q (F0 m 36 ls []) := by
    intro n
    induction n with
    | zero => intro x3 c_recorded a_record H locs ls h; exact j_none (α := Int32 × Int32 × (Nat → Int32)) h
    | succ n ih =>
      intro x3 c_recorded a_record H locs ls h hP hD hS hl
      rw [jf_Model_insert_b36] at h
      refine lv_iload_n hx hb dX11_insert_36 rfl (lv_at hl 3 rfl) ?_
      refine lv_iload_n hx hb dX11_insert_37 rfl (lv_at hl 1 rfl) ?_
      refine lv_icmp_le (tgt := 61) hx hb dX11_insert_38 (by decide) (fun hq38 => ?_) (fun hq38 => ?_)
      · replace h := jif_t hq38 h
        exact kb61   c_recorded a_record _ _ _ h hP hD hS (lv_sub hl [0, 1, 2] rfl)
      · replace h := jif_f hq38 h
        refine lv_aload_n hx hb dX11_insert_41 rfl (lv_at hl 0 rfl) ?_
        refine va_get (D := E.1) (ci := 11) (v := .ref q_record) (C := RX11) (T := TX11) (N := 43) hx hb hts hin11 hown hK.1 hP 0 rfl rfl 9 (by decide) hk_32 (fun _ h9 => h9) rfl dX11_insert_42 ?_
        refine lv_iload_n hx hb dX11_insert_45 rfl (lv_at hl 3 rfl) ?_
        refine lv_aload_n hx hb dX11_insert_46 rfl (lv_at hl 0 rfl) ?_
        refine va_get (D := E.1) (ci := 11) (v := .ref q_record) (C := RX11) (T := TX11) (N := 43) hx hb hts hin11 hown hK.1 hP 0 rfl rfl 9 (by decide) hk_32 (fun _ h9 => h9) rfl dX11_insert_47 ?_
        refine lv_iload_n hx hb dX11_insert_50 rfl (lv_at hl 3 rfl) ?_
        refine lv_iconst (v := 1) hx hb dX11_insert_51 (by decide) ?_
        refine lv_isub hx hb dX11_insert_52 ?_
        obtain ⟨g53, h⟩ := jga_e h
        refine va_iald hx hb hK.1 hP 1 1 rfl rfl g53 dX11_insert_53 ?_
        obtain ⟨g54, h⟩ := jga_e h
        refine va_iast hx hb hK.1 hP hD hS 1 1 rfl rfl g54 dX11_insert_54 (fun H locs hP hD hS => ?_)
        replace hP : va_P E.1 vwCl (jw_Model_insert E q_this q_tape q_taken q_strokeMany q_kind q_textMany q_strokes q_texts q_record q_itsEntry q_itsFirst q_text q_lengthAhead q_lengthBehind q_chord q_asked q_way q_wayStrokes q_wayMany q_best q_tried q_plan q_made q_trial q_two c_taped c_entries c_recorded c_translations c_length c_shift c_link c_chordMany c_lastMany c_bestMany c_bestStrokes c_triedMany c_triedStrokes c_planMany c_planStrokes c_madeMany c_madeStrokes c_isClear c_isPlanned (upd a_record x3.toNatClampNeg (a_record (x3 - 1).toNatClampNeg))) H := hP
        replace hD : va_D A (jw_Model_insert E q_this q_tape q_taken q_strokeMany q_kind q_textMany q_strokes q_texts q_record q_itsEntry q_itsFirst q_text q_lengthAhead q_lengthBehind q_chord q_asked q_way q_wayStrokes q_wayMany q_best q_tried q_plan q_made q_trial q_two c_taped c_entries c_recorded c_translations c_length c_shift c_link c_chordMany c_lastMany c_bestMany c_bestStrokes c_triedMany c_triedStrokes c_planMany c_planStrokes c_madeMany c_madeStrokes c_isClear c_isPlanned (upd a_record x3.toNatClampNeg (a_record (x3 - 1).toNatClampNeg))) := hD
        refine lv_iinc (v := (x3 + (-1))) (lv' := [(3, .int (x3 + (-1))), (0, .ref q_this), (1, .int x1), (2, .int x2)]) hx hb dX11_insert_55 hl (k := 3) rfl rfl (by decide) rfl (fun ls hl => ?_)
        refine lv_goto (tgt := 36) hx hb dX11_insert_58 (by decide) ?_
        exact ih (x3 + (-1)) c_recorded (upd a_record x3.toNatClampNeg (a_record (x3 - 1).toNatClampNeg)) _ _ _ h hP hD hS (lv_sub hl [1, 2, 3, 0] rfl)
  unfold jf_Model_insert at h
  refine lv_iload_n hx hb dX11_insert_0 rfl (lv_at hl 1 rfl) ?_
  refine lv_if_lt (tgt := 29) hx hb dX11_insert_1 (by decide) (fun hq1 => ?_) (fun hq1 => ?_)
  · replace h := jif_t hq1 h
    refine lv_iconst (v := 0) hx hb dX11_insert_29 (by decide) ?_
    exact j_iret (u := (0, c_recorded, a_record)) (rv := (fun T => T.1)) (wv := (fun T => (jw_Model_insert E q_this q_tape q_taken q_strokeMany q_kind q_textMany q_strokes q_texts q_record q_itsEntry q_itsFirst q_text q_lengthAhead q_lengthBehind q_chord q_asked q_way q_wayStrokes q_wayMany q_best q_tried q_plan q_made q_trial q_two c_taped c_entries T.2.1 c_translations c_length c_shift c_link c_chordMany c_lastMany c_bestMany c_bestStrokes c_triedMany c_triedStrokes c_planMany c_planStrokes c_madeMany c_madeStrokes c_isClear c_isPlanned T.2.2))) h hQ hx hb hr jb_0 hlocks hS hP hD dX11_insert_30
  · replace h := jif_f hq1 h
    refine lv_iload_n hx hb dX11_insert_4 rfl (lv_at hl 1 rfl) ?_
    refine lv_aload_n hx hb dX11_insert_5 rfl (lv_at hl 0 rfl) ?_
    refine va_get (D := E.1) (ci := 11) (v := .int c_recorded) (C := RX11) (T := TX11) (N := 43) hx hb hts hin11 hown hK.1 hP 0 rfl rfl 10 (by decide) hk_124 (fun _ h9 => h9) rfl dX11_insert_6 ?_
    refine lv_icmp_gt (tgt := 29) hx hb dX11_insert_9 (by decide) (fun hq9 => ?_) (fun hq9 => ?_)
    · replace h := jif_t hq9 h
      refine lv_iconst (v := 0) hx hb dX11_insert_29 (by decide) ?_
      exact j_iret (u := (0, c_recorded, a_record)) (rv := (fun T => T.1)) (wv := (fun T => (jw_Model_insert E q_this q_tape q_taken q_strokeMany q_kind q_textMany q_strokes q_texts q_record q_itsEntry q_itsFirst q_text q_lengthAhead q_lengthBehind q_chord q_asked q_way q_wayStrokes q_wayMany q_best q_tried q_plan q_made q_trial q_two c_taped c_entries T.2.1 c_translations c_length c_shift c_link c_chordMany c_lastMany c_bestMany c_bestStrokes c_triedMany c_triedStrokes c_planMany c_planStrokes c_madeMany c_madeStrokes c_isClear c_isPlanned T.2.2))) h hQ hx hb hr jb_0 hlocks hS hP hD dX11_insert_30
    · replace h := jif_f hq9 h
      refine lv_iload_n hx hb dX11_insert_12 rfl (lv_at hl 2 rfl) ?_
      obtain ⟨r13, hf13, h⟩ := jbd h
      refine j_callSi (own := RX11) (As := [.int x2]) (rest := []) hx hb hml hown hts hK hA hP hD hS (jc_Model_isStroke l E x2 N hf13) gX11_insert_X11_isStroke rfl ⟨rfl, rfl⟩ 1 (by decide +kernel) rfl rfl [] [0, 1] [0, 1] rfl rfl rfl rfl rfl rfl rfl hl.1 rfl rfl dX11_insert_13 (fun H locs hP hD hS => ?_)
      replace hP : va_P E.1 vwCl (jw_Model_insert E q_this q_tape q_taken q_strokeMany q_kind q_textMany q_strokes q_texts q_record q_itsEntry q_itsFirst q_text q_lengthAhead q_lengthBehind q_chord q_asked q_way q_wayStrokes q_wayMany q_best q_tried q_plan q_made q_trial q_two c_taped c_entries c_recorded c_translations c_length c_shift c_link c_chordMany c_lastMany c_bestMany c_bestStrokes c_triedMany c_triedStrokes c_planMany c_planStrokes c_madeMany c_madeStrokes c_isClear c_isPlanned a_record) H := hP
      replace hD : va_D A (jw_Model_insert E q_this q_tape q_taken q_strokeMany q_kind q_textMany q_strokes q_texts q_record q_itsEntry q_itsFirst q_text q_lengthAhead q_lengthBehind q_chord q_asked q_way q_wayStrokes q_wayMany q_best q_tried q_plan q_made q_trial q_two c_taped c_entries c_recorded c_translations c_length c_shift c_link c_chordMany c_lastMany c_bestMany c_bestStrokes c_triedMany c_triedStrokes c_planMany c_planStrokes c_madeMany c_madeStrokes c_isClear c_isPlanned a_record) := hD
      refine lv_if_eq (tgt := 29) hx hb dX11_insert_16 (by decide) (fun hq16 => ?_) (fun hq16 => ?_)
      · replace h := jif_t hq16 h
        refine lv_iconst (v := 0) hx hb dX11_insert_29 (by decide) ?_
        exact j_iret (u := (0, c_recorded, a_record)) (rv := (fun T => T.1)) (wv := (fun T => (jw_Model_insert E q_this q_tape q_taken q_strokeMany q_kind q_textMany q_strokes q_texts q_record q_itsEntry q_itsFirst q_text q_lengthAhead q_lengthBehind q_chord q_asked q_way q_wayStrokes q_wayMany q_best q_tried q_plan q_made q_trial q_two c_taped c_entries T.2.1 c_translations c_length c_shift c_link c_chordMany c_lastMany c_bestMany c_bestStrokes c_triedMany c_triedStrokes c_planMany c_planStrokes c_madeMany c_madeStrokes c_isClear c_isPlanned T.2.2))) h hQ hx hb hr jb_0 hlocks hS hP hD dX11_insert_30
      · replace h := jif_f hq16 h
        refine lv_aload_n hx hb dX11_insert_19 rfl (lv_at hl 0 rfl) ?_
        refine va_get (D := E.1) (ci := 11) (v := .int c_recorded) (C := RX11) (T := TX11) (N := 43) hx hb hts hin11 hown hK.1 hP 0 rfl rfl 10 (by decide) hk_124 (fun _ h9 => h9) rfl dX11_insert_20 ?_
        refine lv_sipush (v := 300) hx hb dX11_insert_23 (by decide) ?_
        refine lv_icmp_ne (tgt := 31) hx hb dX11_insert_26 (by decide) (fun hq26 => ?_) (fun hq26 => ?_)
        · replace h := jif_f hq26 h
          refine lv_aload_n hx hb dX11_insert_31 rfl (lv_at hl 0 rfl) ?_
          refine va_get (D := E.1) (ci := 11) (v := .int c_recorded) (C := RX11) (T := TX11) (N := 43) hx hb hts hin11 hown hK.1 hP 0 rfl rfl 10 (by decide) hk_124 (fun _ h9 => h9) rfl dX11_insert_32 ?_
          refine lv_istore_n (lv' := [(3, .int c_recorded), (0, .ref q_this), (1, .int x1), (2, .int x2)]) hx hb dX11_insert_35 rfl hl (by decide) rfl (fun ls hl => ?_)
          exact kb36  N c_recorded c_recorded a_record _ _ _ h hP hD hS (lv_sub hl [1, 2, 3, 0] rfl)
        · replace h := jif_t hq26 h
          refine lv_iconst (v := 0) hx hb dX11_insert_29 (by decide) ?_
          exact j_iret (u := (0, c_recorded, a_record)) (rv := (fun T => T.1)) (wv := (fun T => (jw_Model_insert E q_this q_tape q_taken q_strokeMany q_kind q_textMany q_strokes q_texts q_record q_itsEntry q_itsFirst q_text q_lengthAhead q_lengthBehind q_chord q_asked q_way q_wayStrokes q_wayMany q_best q_tried q_plan q_made q_trial q_two c_taped c_entries T.2.1 c_translations c_length c_shift c_link c_chordMany c_lastMany c_bestMany c_bestStrokes c_triedMany c_triedStrokes c_planMany c_planStrokes c_madeMany c_madeStrokes c_isClear c_isPlanned T.2.2))) h hQ hx hb hr jb_0 hlocks hS hP hD dX11_insert_30
abbrev jw_Model_cut (E : jE) (q_this q_tape q_taken q_strokeMany q_kind q_textMany q_strokes q_texts q_record q_itsEntry q_itsFirst q_text q_lengthAhead q_lengthBehind q_chord q_asked q_way q_wayStrokes q_wayMany q_best q_tried q_plan q_made q_trial q_two : Nat) (c_taped : Int32) (c_entries : Int32) (c_recorded : Int32) (c_translations : Int32) (c_length : Int32) (c_shift : Int32) (c_link : Int32) (c_chordMany : Int32) (c_lastMany : Int32) (c_bestMany : Int32) (c_bestStrokes : Int32) (c_triedMany : Int32) (c_triedStrokes : Int32) (c_planMany : Int32) (c_planStrokes : Int32) (c_madeMany : Int32) (c_madeStrokes : Int32) (c_isClear : Int32) (c_isPlanned : Int32) (a_record : (Nat → Int32)) : va_W := [(q_this, .inr (11, [.ref q_tape, .ref q_taken, .int c_taped, .int c_entries, .ref q_strokeMany, .ref q_kind, .ref q_textMany, .ref q_strokes, .ref q_texts, .ref q_record, .int c_recorded, .ref q_itsEntry, .ref q_itsFirst, .int c_translations, .ref q_text, .ref q_lengthAhead, .ref q_lengthBehind, .int c_length, .int c_shift, .int c_link, .ref q_chord, .int c_chordMany, .int c_lastMany, .ref q_asked, .ref q_way, .ref q_wayStrokes, .ref q_wayMany, .ref q_best, .ref q_tried, .ref q_plan, .ref q_made, .int c_bestMany, .int c_bestStrokes, .int c_triedMany, .int c_triedStrokes, .int c_planMany, .int c_planStrokes, .int c_madeMany, .int c_madeStrokes, .int c_isClear, .int c_isPlanned, .ref q_trial, .ref q_two])), (q_record, .inl (E.2.2.1, 300, .inl a_record))]
def jr_Model_cut : Room := { frames := 0, cells := 0, slots := 0, locals := 0 }
set_option maxHeartbeats 4000000 in
set_option maxRecDepth 100000 in
theorem jc_Model_cut (l : Launch) (E : jE) (q_this q_tape q_taken q_strokeMany q_kind q_textMany q_strokes q_texts q_record q_itsEntry q_itsFirst q_text q_lengthAhead q_lengthBehind q_chord q_asked q_way q_wayStrokes q_wayMany q_best q_tried q_plan q_made q_trial q_two : Nat) (c_taped : Int32) (c_entries : Int32) (c_recorded : Int32) (c_translations : Int32) (c_length : Int32) (c_shift : Int32) (c_link : Int32) (c_chordMany : Int32) (c_lastMany : Int32) (c_bestMany : Int32) (c_bestStrokes : Int32) (c_triedMany : Int32) (c_triedStrokes : Int32) (c_planMany : Int32) (c_planStrokes : Int32) (c_madeMany : Int32) (c_madeStrokes : Int32) (c_isClear : Int32) (c_isPlanned : Int32) (a_record : (Nat → Int32)) (x1 : Int32) (N : Nat) {T : Int32 × Int32 × (Nat → Int32)} (h : jf_Model_cut N x1 c_recorded a_record = some T) : jMi l yX11_cut wsX11_cut jr_Model_cut E [.ref q_this, .int x1] (jw_Model_cut E q_this q_tape q_taken q_strokeMany q_kind q_textMany q_strokes q_texts q_record q_itsEntry q_itsFirst q_text q_lengthAhead q_lengthBehind q_chord q_asked q_way q_wayStrokes q_wayMany q_best q_tried q_plan q_made q_trial q_two c_taped c_entries c_recorded c_translations c_length c_shift c_link c_chordMany c_lastMany c_bestMany c_bestStrokes c_triedMany c_triedStrokes c_planMany c_planStrokes c_madeMany c_madeStrokes c_isClear c_isPlanned a_record) (T.1) (jw_Model_cut E q_this q_tape q_taken q_strokeMany q_kind q_textMany q_strokes q_texts q_record q_itsEntry q_itsFirst q_text q_lengthAhead q_lengthBehind q_chord q_asked q_way q_wayStrokes q_wayMany q_best q_tried q_plan q_made q_trial q_two c_taped c_entries T.2.1 c_translations c_length c_shift c_link c_chordMany c_lastMany c_bestMany c_bestStrokes c_triedMany c_triedStrokes c_planMany c_planStrokes c_madeMany c_madeStrokes c_isClear c_isPlanned T.2.2) := by
  refine jMi.begin (cc := cX11_cut) (maxL := 4) (ret := (some .int)) (by decide) rfl (Nat.le_of_ble_eq_true rfl) ?_
  intro p e s m args below meth c A ls Q hQ hx hb hr hml hown hlocks hts hK hA hP hD hS hl
  replace hown : s.vm.findClass RX11 = some m.cls := hown
  replace hl : lv_has ls 4 [(0, .ref q_this), (1, .int x1)] := hl
  have hin11 : ∀ w ∈ u_ws RX11 TX11 43, w ∈ wsX11_cut := by decide +kernel
  have hk_32 := hts (.fieldLink RX11 32 "StenoRoomModel" "record" "[I") (by decide +kernel)
  have hk_124 := hts (.fieldLink RX11 124 "StenoRoomModel" "recorded" "I") (by decide +kernel)
  have kb33 : ∀ (n : Nat) (x2 : Int32) (x3 : Int32) (c_recorded : Int32) (a_record : (Nat → Int32)) (H : Heap) (locs : List Loc) (ls : Array Slot), jf_Model_cut_b33 n x2 x3 c_recorded a_record = some T → va_P E.1 vwCl (jw_Model_cut E q_this q_tape q_taken q_strokeMany q_kind q_textMany q_strokes q_texts q_record q_itsEntry q_itsFirst q_text q_lengthAhead q_lengthBehind q_chord q_asked q_way q_wayStrokes q_wayMany q_best q_tried q_plan q_made q_trial q_two c_taped c_entries c_recorded c_translations c_length c_shift c_link c_chordMany c_lastMany c_bestMany c_bestStrokes c_triedMany c_triedStrokes c_planMany c_planStrokes c_madeMany c_madeStrokes c_isClear c_isPlanned a_record) H → va_D A (jw_Model_cut E q_this q_tape q_taken q_strokeMany q_kind q_textMany q_strokes q_texts q_record q_itsEntry q_itsFirst q_text q_lengthAhead q_lengthBehind q_chord q_asked q_way q_wayStrokes q_wayMany q_best q_tried q_plan q_made q_trial q_two c_taped c_entries c_recorded c_translations c_length c_shift c_link c_chordMany c_lastMany c_bestMany c_bestStrokes c_triedMany c_triedStrokes c_planMany c_planStrokes c_madeMany c_madeStrokes c_isClear c_isPlanned a_record) → va_S A s.heap H locs → lv_has ls 4 [(0, .ref q_this), (2, .int x2), (3, .int x3)] → W p l e jr_Model_cut s m args below meth c H locs 0 0 Q (F0 m 33 ls []) := by
    intro n
    induction n with
    | zero => intro x2 x3 c_recorded a_record H locs ls h; exact j_none (α := Int32 × Int32 × (Nat → Int32)) h
    | succ n ih =>
      intro x2 x3 c_recorded a_record H locs ls h hP hD hS hl
      rw [jf_Model_cut_b33] at h
      refine lv_iload_n hx hb dX11_cut_33 rfl (lv_at hl 2 rfl) ?_
      refine lv_aload_n hx hb dX11_cut_34 rfl (lv_at hl 0 rfl) ?_
      refine va_get (D := E.1) (ci := 11) (v := .int c_recorded) (C := RX11) (T := TX11) (N := 43) hx hb hts hin11 hown hK.1 hP 0 rfl rfl 10 (by decide) hk_124 (fun _ h9 => h9) rfl dX11_cut_35 ?_
      refine lv_icmp_ge (tgt := 61) hx hb dX11_cut_38 (by decide) (fun hq38 => ?_) (fun hq38 => ?_)
      · replace h := jif_t hq38 h
        refine lv_iload_n hx hb dX11_cut_61 rfl (lv_at hl 1 rfl) ?_
        exact j_iret (u := (x2, c_recorded, a_record)) (rv := (fun T => T.1)) (wv := (fun T => (jw_Model_cut E q_this q_tape q_taken q_strokeMany q_kind q_textMany q_strokes q_texts q_record q_itsEntry q_itsFirst q_text q_lengthAhead q_lengthBehind q_chord q_asked q_way q_wayStrokes q_wayMany q_best q_tried q_plan q_made q_trial q_two c_taped c_entries T.2.1 c_translations c_length c_shift c_link c_chordMany c_lastMany c_bestMany c_bestStrokes c_triedMany c_triedStrokes c_planMany c_planStrokes c_madeMany c_madeStrokes c_isClear c_isPlanned T.2.2))) h hQ hx hb hr rfl hlocks hS hP hD dX11_cut_62
      · replace h := jif_f hq38 h
        refine lv_aload_n hx hb dX11_cut_41 rfl (lv_at hl 0 rfl) ?_
        refine va_get (D := E.1) (ci := 11) (v := .ref q_record) (C := RX11) (T := TX11) (N := 43) hx hb hts hin11 hown hK.1 hP 0 rfl rfl 9 (by decide) hk_32 (fun _ h9 => h9) rfl dX11_cut_42 ?_
        refine lv_iload_n hx hb dX11_cut_45 rfl (lv_at hl 2 rfl) ?_
        refine lv_aload_n hx hb dX11_cut_46 rfl (lv_at hl 0 rfl) ?_
        refine va_get (D := E.1) (ci := 11) (v := .ref q_record) (C := RX11) (T := TX11) (N := 43) hx hb hts hin11 hown hK.1 hP 0 rfl rfl 9 (by decide) hk_32 (fun _ h9 => h9) rfl dX11_cut_47 ?_
        refine lv_iload_n hx hb dX11_cut_50 rfl (lv_at hl 2 rfl) ?_
        refine lv_iconst (v := 1) hx hb dX11_cut_51 (by decide) ?_
        refine lv_iadd hx hb dX11_cut_52 ?_
        obtain ⟨g53, h⟩ := jga_e h
        refine va_iald hx hb hK.1 hP 1 1 rfl rfl g53 dX11_cut_53 ?_
        obtain ⟨g54, h⟩ := jga_e h
        refine va_iast hx hb hK.1 hP hD hS 1 1 rfl rfl g54 dX11_cut_54 (fun H locs hP hD hS => ?_)
        replace hP : va_P E.1 vwCl (jw_Model_cut E q_this q_tape q_taken q_strokeMany q_kind q_textMany q_strokes q_texts q_record q_itsEntry q_itsFirst q_text q_lengthAhead q_lengthBehind q_chord q_asked q_way q_wayStrokes q_wayMany q_best q_tried q_plan q_made q_trial q_two c_taped c_entries c_recorded c_translations c_length c_shift c_link c_chordMany c_lastMany c_bestMany c_bestStrokes c_triedMany c_triedStrokes c_planMany c_planStrokes c_madeMany c_madeStrokes c_isClear c_isPlanned (upd a_record x3.toNatClampNeg (a_record (x3 + 1).toNatClampNeg))) H := hP
        replace hD : va_D A (jw_Model_cut E q_this q_tape q_taken q_strokeMany q_kind q_textMany q_strokes q_texts q_record q_itsEntry q_itsFirst q_text q_lengthAhead q_lengthBehind q_chord q_asked q_way q_wayStrokes q_wayMany q_best q_tried q_plan q_made q_trial q_two c_taped c_entries c_recorded c_translations c_length c_shift c_link c_chordMany c_lastMany c_bestMany c_bestStrokes c_triedMany c_triedStrokes c_planMany c_planStrokes c_madeMany c_madeStrokes c_isClear c_isPlanned (upd a_record x3.toNatClampNeg (a_record (x3 + 1).toNatClampNeg))) := hD
        refine lv_iinc (v := (x3 + 1)) (lv' := [(3, .int (x3 + 1)), (0, .ref q_this), (2, .int x2)]) hx hb dX11_cut_55 hl (k := 2) rfl rfl (by decide) rfl (fun ls hl => ?_)
        refine lv_goto (tgt := 33) hx hb dX11_cut_58 (by decide) ?_
        exact ih x2 (x3 + 1) c_recorded (upd a_record x3.toNatClampNeg (a_record (x3 + 1).toNatClampNeg)) _ _ _ h hP hD hS (lv_sub hl [1, 2, 0] rfl)
  unfold jf_Model_cut at h
  refine lv_iload_n hx hb dX11_cut_0 rfl (lv_at hl 1 rfl) ?_
  refine lv_if_lt (tgt := 12) hx hb dX11_cut_1 (by decide) (fun hq1 => ?_) (fun hq1 => ?_)
  · replace h := jif_t hq1 h
    refine lv_iconst (v := (-1)) hx hb dX11_cut_12 (by decide) ?_
    exact j_iret (u := ((-1), c_recorded, a_record)) (rv := (fun T => T.1)) (wv := (fun T => (jw_Model_cut E q_this q_tape q_taken q_strokeMany q_kind q_textMany q_strokes q_texts q_record q_itsEntry q_itsFirst q_text q_lengthAhead q_lengthBehind q_chord q_asked q_way q_wayStrokes q_wayMany q_best q_tried q_plan q_made q_trial q_two c_taped c_entries T.2.1 c_translations c_length c_shift c_link c_chordMany c_lastMany c_bestMany c_bestStrokes c_triedMany c_triedStrokes c_planMany c_planStrokes c_madeMany c_madeStrokes c_isClear c_isPlanned T.2.2))) h hQ hx hb hr rfl hlocks hS hP hD dX11_cut_13
  · replace h := jif_f hq1 h
    refine lv_iload_n hx hb dX11_cut_4 rfl (lv_at hl 1 rfl) ?_
    refine lv_aload_n hx hb dX11_cut_5 rfl (lv_at hl 0 rfl) ?_
    refine va_get (D := E.1) (ci := 11) (v := .int c_recorded) (C := RX11) (T := TX11) (N := 43) hx hb hts hin11 hown hK.1 hP 0 rfl rfl 10 (by decide) hk_124 (fun _ h9 => h9) rfl dX11_cut_6 ?_
    refine lv_icmp_lt (tgt := 14) hx hb dX11_cut_9 (by decide) (fun hq9 => ?_) (fun hq9 => ?_)
    · replace h := jif_t hq9 h
      refine lv_aload_n hx hb dX11_cut_14 rfl (lv_at hl 0 rfl) ?_
      refine va_get (D := E.1) (ci := 11) (v := .ref q_record) (C := RX11) (T := TX11) (N := 43) hx hb hts hin11 hown hK.1 hP 0 rfl rfl 9 (by decide) hk_32 (fun _ h9 => h9) rfl dX11_cut_15 ?_
      refine lv_iload_n hx hb dX11_cut_18 rfl (lv_at hl 1 rfl) ?_
      obtain ⟨g19, h⟩ := jga_e h
      refine va_iald hx hb hK.1 hP 1 1 rfl rfl g19 dX11_cut_19 ?_
      refine lv_istore_n (lv' := [(2, .int (a_record x1.toNatClampNeg)), (0, .ref q_this), (1, .int x1)]) hx hb dX11_cut_20 rfl hl (by decide) rfl (fun ls hl => ?_)
      refine lv_aload_n hx hb dX11_cut_21 rfl (lv_at hl 1 rfl) ?_
      refine lv_aload_n hx hb dX11_cut_22 rfl (lv_at hl 1 rfl) ?_
      refine va_get (D := E.1) (ci := 11) (v := .int c_recorded) (C := RX11) (T := TX11) (N := 43) hx hb hts hin11 hown hK.1 hP 0 rfl rfl 10 (by decide) hk_124 (fun _ h9 => h9) rfl dX11_cut_23 ?_
      refine lv_iconst (v := 1) hx hb dX11_cut_26 (by decide) ?_
      refine lv_isub hx hb dX11_cut_27 ?_
      refine va_put (D := E.1) (ci := 11) (v := .int (c_recorded - 1)) (ty := .int) (C := RX11) (T := TX11) (N := 43) hx hb hts hin11 tyX11 tyX11_ok nmX11 hown hK.1 hP hD hS 0 rfl rfl 10 (by decide) hk_124 (fun _ h9 => h9) rfl (by decide +kernel) rfl rfl (Nat.le_of_ble_eq_true rfl) dX11_cut_28 (fun H locs hP hD hS => ?_)
      replace hP : va_P E.1 vwCl (jw_Model_cut E q_this q_tape q_taken q_strokeMany q_kind q_textMany q_strokes q_texts q_record q_itsEntry q_itsFirst q_text q_lengthAhead q_lengthBehind q_chord q_asked q_way q_wayStrokes q_wayMany q_best q_tried q_plan q_made q_trial q_two c_taped c_entries (c_recorded - 1) c_translations c_length c_shift c_link c_chordMany c_lastMany c_bestMany c_bestStrokes c_triedMany c_triedStrokes c_planMany c_planStrokes c_madeMany c_madeStrokes c_isClear c_isPlanned a_record) H := hP
      replace hD : va_D A (jw_Model_cut E q_this q_tape q_taken q_strokeMany q_kind q_textMany q_strokes q_texts q_record q_itsEntry q_itsFirst q_text q_lengthAhead q_lengthBehind q_chord q_asked q_way q_wayStrokes q_wayMany q_best q_tried q_plan q_made q_trial q_two c_taped c_entries (c_recorded - 1) c_translations c_length c_shift c_link c_chordMany c_lastMany c_bestMany c_bestStrokes c_triedMany c_triedStrokes c_planMany c_planStrokes c_madeMany c_madeStrokes c_isClear c_isPlanned a_record) := hD
      refine lv_iload_n hx hb dX11_cut_31 rfl (lv_at hl 2 rfl) ?_
      refine lv_istore_n (lv' := [(3, .int x1), (2, .int (a_record x1.toNatClampNeg)), (0, .ref q_this), (1, .int x1)]) hx hb dX11_cut_32 rfl hl (by decide) rfl (fun ls hl => ?_)
      exact kb33  N (a_record x1.toNatClampNeg) x1 (c_recorded - 1) a_record _ _ _ h hP hD hS (lv_sub hl [2, 1, 0] rfl)
    · replace h := jif_f hq9 h
      refine lv_iconst (v := (-1)) hx hb dX11_cut_12 (by decide) ?_
      exact j_iret (u := ((-1), c_recorded, a_record)) (rv := (fun T => T.1)) (wv := (fun T => (jw_Model_cut E q_this q_tape q_taken q_strokeMany q_kind q_textMany q_strokes q_texts q_record q_itsEntry q_itsFirst q_text q_lengthAhead q_lengthBehind q_chord q_asked q_way q_wayStrokes q_wayMany q_best q_tried q_plan q_made q_trial q_two c_taped c_entries T.2.1 c_translations c_length c_shift c_link c_chordMany c_lastMany c_bestMany c_bestStrokes c_triedMany c_triedStrokes c_planMany c_planStrokes c_madeMany c_madeStrokes c_isClear c_isPlanned T.2.2))) h hQ hx hb hr rfl hlocks hS hP hD dX11_cut_13
abbrev jw_Model_puts (E : jE) (q_this q_tape q_taken q_strokeMany q_kind q_textMany q_strokes q_texts q_record q_itsEntry q_itsFirst q_text q_lengthAhead q_lengthBehind q_chord q_asked q_way q_wayStrokes q_wayMany q_best q_tried q_plan q_made q_trial q_two : Nat) (c_taped : Int32) (c_entries : Int32) (c_recorded : Int32) (c_translations : Int32) (c_length : Int32) (c_shift : Int32) (c_link : Int32) (c_chordMany : Int32) (c_lastMany : Int32) (c_bestMany : Int32) (c_bestStrokes : Int32) (c_triedMany : Int32) (c_triedStrokes : Int32) (c_planMany : Int32) (c_planStrokes : Int32) (c_madeMany : Int32) (c_madeStrokes : Int32) (c_isClear : Int32) (c_isPlanned : Int32) (a_text : (Nat → Int32)) : va_W := [(q_this, .inr (11, [.ref q_tape, .ref q_taken, .int c_taped, .int c_entries, .ref q_strokeMany, .ref q_kind, .ref q_textMany, .ref q_strokes, .ref q_texts, .ref q_record, .int c_recorded, .ref q_itsEntry, .ref q_itsFirst, .int c_translations, .ref q_text, .ref q_lengthAhead, .ref q_lengthBehind, .int c_length, .int c_shift, .int c_link, .ref q_chord, .int c_chordMany, .int c_lastMany, .ref q_asked, .ref q_way, .ref q_wayStrokes, .ref q_wayMany, .ref q_best, .ref q_tried, .ref q_plan, .ref q_made, .int c_bestMany, .int c_bestStrokes, .int c_triedMany, .int c_triedStrokes, .int c_planMany, .int c_planStrokes, .int c_madeMany, .int c_madeStrokes, .int c_isClear, .int c_isPlanned, .ref q_trial, .ref q_two])), (q_text, .inl (E.2.1, 8000, .inl a_text))]
def jr_Model_puts : Room := { frames := 0, cells := 0, slots := 0, locals := 0 }
set_option maxHeartbeats 4000000 in
set_option maxRecDepth 100000 in
theorem jc_Model_puts (l : Launch) (E : jE) (q_this q_tape q_taken q_strokeMany q_kind q_textMany q_strokes q_texts q_record q_itsEntry q_itsFirst q_text q_lengthAhead q_lengthBehind q_chord q_asked q_way q_wayStrokes q_wayMany q_best q_tried q_plan q_made q_trial q_two : Nat) (c_taped : Int32) (c_entries : Int32) (c_recorded : Int32) (c_translations : Int32) (c_length : Int32) (c_shift : Int32) (c_link : Int32) (c_chordMany : Int32) (c_lastMany : Int32) (c_bestMany : Int32) (c_bestStrokes : Int32) (c_triedMany : Int32) (c_triedStrokes : Int32) (c_planMany : Int32) (c_planStrokes : Int32) (c_madeMany : Int32) (c_madeStrokes : Int32) (c_isClear : Int32) (c_isPlanned : Int32) (a_text : (Nat → Int32)) (x1 : Int32) (N : Nat) {T : Int32 × (Nat → Int32)} (h : jf_Model_puts x1 c_length a_text = some T) : jMv l yX11_puts wsX11_puts jr_Model_puts E [.ref q_this, .int x1] (jw_Model_puts E q_this q_tape q_taken q_strokeMany q_kind q_textMany q_strokes q_texts q_record q_itsEntry q_itsFirst q_text q_lengthAhead q_lengthBehind q_chord q_asked q_way q_wayStrokes q_wayMany q_best q_tried q_plan q_made q_trial q_two c_taped c_entries c_recorded c_translations c_length c_shift c_link c_chordMany c_lastMany c_bestMany c_bestStrokes c_triedMany c_triedStrokes c_planMany c_planStrokes c_madeMany c_madeStrokes c_isClear c_isPlanned a_text) (jw_Model_puts E q_this q_tape q_taken q_strokeMany q_kind q_textMany q_strokes q_texts q_record q_itsEntry q_itsFirst q_text q_lengthAhead q_lengthBehind q_chord q_asked q_way q_wayStrokes q_wayMany q_best q_tried q_plan q_made q_trial q_two c_taped c_entries c_recorded c_translations T.1 c_shift c_link c_chordMany c_lastMany c_bestMany c_bestStrokes c_triedMany c_triedStrokes c_planMany c_planStrokes c_madeMany c_madeStrokes c_isClear c_isPlanned T.2) := by
  refine jMv.begin (cc := cX11_puts) (maxL := 2) (ret := none) (by decide) rfl (Nat.le_of_ble_eq_true rfl) ?_
  intro p e s m args below meth c A ls Q hQ hx hb hr hml hown hlocks hts hK hA hP hD hS hl
  replace hown : s.vm.findClass RX11 = some m.cls := hown
  replace hl : lv_has ls 2 [(0, .ref q_this), (1, .int x1)] := hl
  have hin11 : ∀ w ∈ u_ws RX11 TX11 43, w ∈ wsX11_puts := by decide +kernel
  have hk_41 := hts (.fieldLink RX11 41 "StenoRoomModel" "text" "[B") (by decide +kernel)
  have hk_130 := hts (.fieldLink RX11 130 "StenoRoomModel" "length" "I") (by decide +kernel)
  unfold jf_Model_puts at h
  refine lv_aload_n hx hb dX11_puts_0 rfl (lv_at hl 0 rfl) ?_
  refine va_get (D := E.1) (ci := 11) (v := .ref q_text) (C := RX11) (T := TX11) (N := 43) hx hb hts hin11 hown hK.1 hP 0 rfl rfl 14 (by decide) hk_41 (fun _ h9 => h9) rfl dX11_puts_1 ?_
  refine lv_aload_n hx hb dX11_puts_4 rfl (lv_at hl 0 rfl) ?_
  refine va_get (D := E.1) (ci := 11) (v := .int c_length) (C := RX11) (T := TX11) (N := 43) hx hb hts hin11 hown hK.1 hP 0 rfl rfl 17 (by decide) hk_130 (fun _ h9 => h9) rfl dX11_puts_5 ?_
  refine lv_iload_n hx hb dX11_puts_8 rfl (lv_at hl 1 rfl) ?_
  refine lv_i2b (v := x1.toInt8.toInt32) hx hb dX11_puts_9 rfl ?_
  obtain ⟨g10, h⟩ := jga_e h
  refine va_bast hx hb hK.1 hP hD hS 1 0 rfl rfl g10 dX11_puts_10 (fun H locs hP hD hS => ?_)
  replace hP : va_P E.1 vwCl (jw_Model_puts E q_this q_tape q_taken q_strokeMany q_kind q_textMany q_strokes q_texts q_record q_itsEntry q_itsFirst q_text q_lengthAhead q_lengthBehind q_chord q_asked q_way q_wayStrokes q_wayMany q_best q_tried q_plan q_made q_trial q_two c_taped c_entries c_recorded c_translations c_length c_shift c_link c_chordMany c_lastMany c_bestMany c_bestStrokes c_triedMany c_triedStrokes c_planMany c_planStrokes c_madeMany c_madeStrokes c_isClear c_isPlanned (upd a_text c_length.toNatClampNeg (vp_nar .byte x1.toInt8.toInt32))) H := hP
  replace hD : va_D A (jw_Model_puts E q_this q_tape q_taken q_strokeMany q_kind q_textMany q_strokes q_texts q_record q_itsEntry q_itsFirst q_text q_lengthAhead q_lengthBehind q_chord q_asked q_way q_wayStrokes q_wayMany q_best q_tried q_plan q_made q_trial q_two c_taped c_entries c_recorded c_translations c_length c_shift c_link c_chordMany c_lastMany c_bestMany c_bestStrokes c_triedMany c_triedStrokes c_planMany c_planStrokes c_madeMany c_madeStrokes c_isClear c_isPlanned (upd a_text c_length.toNatClampNeg (vp_nar .byte x1.toInt8.toInt32))) := hD
  refine lv_aload_n hx hb dX11_puts_11 rfl (lv_at hl 0 rfl) ?_
  refine lv_aload_n hx hb dX11_puts_12 rfl (lv_at hl 0 rfl) ?_
  refine va_get (D := E.1) (ci := 11) (v := .int c_length) (C := RX11) (T := TX11) (N := 43) hx hb hts hin11 hown hK.1 hP 0 rfl rfl 17 (by decide) hk_130 (fun _ h9 => h9) rfl dX11_puts_13 ?_
  refine lv_iconst (v := 1) hx hb dX11_puts_16 (by decide) ?_
  refine lv_iadd hx hb dX11_puts_17 ?_
  refine va_put (D := E.1) (ci := 11) (v := .int (c_length + 1)) (ty := .int) (C := RX11) (T := TX11) (N := 43) hx hb hts hin11 tyX11 tyX11_ok nmX11 hown hK.1 hP hD hS 0 rfl rfl 17 (by decide) hk_130 (fun _ h9 => h9) rfl (by decide +kernel) rfl rfl (Nat.le_of_ble_eq_true rfl) dX11_puts_18 (fun H locs hP hD hS => ?_)
  replace hP : va_P E.1 vwCl (jw_Model_puts E q_this q_tape q_taken q_strokeMany q_kind q_textMany q_strokes q_texts q_record q_itsEntry q_itsFirst q_text q_lengthAhead q_lengthBehind q_chord q_asked q_way q_wayStrokes q_wayMany q_best q_tried q_plan q_made q_trial q_two c_taped c_entries c_recorded c_translations (c_length + 1) c_shift c_link c_chordMany c_lastMany c_bestMany c_bestStrokes c_triedMany c_triedStrokes c_planMany c_planStrokes c_madeMany c_madeStrokes c_isClear c_isPlanned (upd a_text c_length.toNatClampNeg (vp_nar .byte x1.toInt8.toInt32))) H := hP
  replace hD : va_D A (jw_Model_puts E q_this q_tape q_taken q_strokeMany q_kind q_textMany q_strokes q_texts q_record q_itsEntry q_itsFirst q_text q_lengthAhead q_lengthBehind q_chord q_asked q_way q_wayStrokes q_wayMany q_best q_tried q_plan q_made q_trial q_two c_taped c_entries c_recorded c_translations (c_length + 1) c_shift c_link c_chordMany c_lastMany c_bestMany c_bestStrokes c_triedMany c_triedStrokes c_planMany c_planStrokes c_madeMany c_madeStrokes c_isClear c_isPlanned (upd a_text c_length.toNatClampNeg (vp_nar .byte x1.toInt8.toInt32))) := hD
  exact j_vret (u := ((c_length + 1), (upd a_text c_length.toNatClampNeg (vp_nar .byte x1.toInt8.toInt32)))) (wv := (fun T => (jw_Model_puts E q_this q_tape q_taken q_strokeMany q_kind q_textMany q_strokes q_texts q_record q_itsEntry q_itsFirst q_text q_lengthAhead q_lengthBehind q_chord q_asked q_way q_wayStrokes q_wayMany q_best q_tried q_plan q_made q_trial q_two c_taped c_entries c_recorded c_translations T.1 c_shift c_link c_chordMany c_lastMany c_bestMany c_bestStrokes c_triedMany c_triedStrokes c_planMany c_planStrokes c_madeMany c_madeStrokes c_isClear c_isPlanned T.2))) h hQ hx hb hr hlocks hS hP hD dX11_puts_21
abbrev jw_Model_blank (E : jE) (q_this q_tape q_taken q_strokeMany q_kind q_textMany q_strokes q_texts q_record q_itsEntry q_itsFirst q_text q_lengthAhead q_lengthBehind q_chord q_asked q_way q_wayStrokes q_wayMany q_best q_tried q_plan q_made q_trial q_two : Nat) (c_taped : Int32) (c_entries : Int32) (c_recorded : Int32) (c_translations : Int32) (c_length : Int32) (c_shift : Int32) (c_link : Int32) (c_chordMany : Int32) (c_lastMany : Int32) (c_bestMany : Int32) (c_bestStrokes : Int32) (c_triedMany : Int32) (c_triedStrokes : Int32) (c_planMany : Int32) (c_planStrokes : Int32) (c_madeMany : Int32) (c_madeStrokes : Int32) (c_isClear : Int32) (c_isPlanned : Int32) (a_text : (Nat → Int32)) : va_W := [(q_this, .inr (11, [.ref q_tape, .ref q_taken, .int c_taped, .int c_entries, .ref q_strokeMany, .ref q_kind, .ref q_textMany, .ref q_strokes, .ref q_texts, .ref q_record, .int c_recorded, .ref q_itsEntry, .ref q_itsFirst, .int c_translations, .ref q_text, .ref q_lengthAhead, .ref q_lengthBehind, .int c_length, .int c_shift, .int c_link, .ref q_chord, .int c_chordMany, .int c_lastMany, .ref q_asked, .ref q_way, .ref q_wayStrokes, .ref q_wayMany, .ref q_best, .ref q_tried, .ref q_plan, .ref q_made, .int c_bestMany, .int c_bestStrokes, .int c_triedMany, .int c_triedStrokes, .int c_planMany, .int c_planStrokes, .int c_madeMany, .int c_madeStrokes, .int c_isClear, .int c_isPlanned, .ref q_trial, .ref q_two])), (q_text, .inl (E.2.1, 8000, .inl a_text))]
def jr_Model_blank : Room := { frames := 1, cells := 0, slots := 0, locals := 21 }
set_option maxHeartbeats 4000000 in
set_option maxRecDepth 100000 in
theorem jc_Model_blank (l : Launch) (E : jE) (q_this q_tape q_taken q_strokeMany q_kind q_textMany q_strokes q_texts q_record q_itsEntry q_itsFirst q_text q_lengthAhead q_lengthBehind q_chord q_asked q_way q_wayStrokes q_wayMany q_best q_tried q_plan q_made q_trial q_two : Nat) (c_taped : Int32) (c_entries : Int32) (c_recorded : Int32) (c_translations : Int32) (c_length : Int32) (c_shift : Int32) (c_link : Int32) (c_chordMany : Int32) (c_lastMany : Int32) (c_bestMany : Int32) (c_bestStrokes : Int32) (c_triedMany : Int32) (c_triedStrokes : Int32) (c_planMany : Int32) (c_planStrokes : Int32) (c_madeMany : Int32) (c_madeStrokes : Int32) (c_isClear : Int32) (c_isPlanned : Int32) (a_text : (Nat → Int32)) (N : Nat) {T : Int32 × Int32 × (Nat → Int32)} (h : jf_Model_blank c_length c_link a_text = some T) : jMv l yX11_blank wsX11_blank jr_Model_blank E [.ref q_this] (jw_Model_blank E q_this q_tape q_taken q_strokeMany q_kind q_textMany q_strokes q_texts q_record q_itsEntry q_itsFirst q_text q_lengthAhead q_lengthBehind q_chord q_asked q_way q_wayStrokes q_wayMany q_best q_tried q_plan q_made q_trial q_two c_taped c_entries c_recorded c_translations c_length c_shift c_link c_chordMany c_lastMany c_bestMany c_bestStrokes c_triedMany c_triedStrokes c_planMany c_planStrokes c_madeMany c_madeStrokes c_isClear c_isPlanned a_text) (jw_Model_blank E q_this q_tape q_taken q_strokeMany q_kind q_textMany q_strokes q_texts q_record q_itsEntry q_itsFirst q_text q_lengthAhead q_lengthBehind q_chord q_asked q_way q_wayStrokes q_wayMany q_best q_tried q_plan q_made q_trial q_two c_taped c_entries c_recorded c_translations T.1 c_shift T.2.1 c_chordMany c_lastMany c_bestMany c_bestStrokes c_triedMany c_triedStrokes c_planMany c_planStrokes c_madeMany c_madeStrokes c_isClear c_isPlanned T.2.2) := by
  refine jMv.begin (cc := cX11_blank) (maxL := 1) (ret := none) (by decide) rfl (Nat.le_of_ble_eq_true rfl) ?_
  intro p e s m args below meth c A ls Q hQ hx hb hr hml hown hlocks hts hK hA hP hD hS hl
  replace hown : s.vm.findClass RX11 = some m.cls := hown
  replace hl : lv_has ls 1 [(0, .ref q_this)] := hl
  have hin11 : ∀ w ∈ u_ws RX11 TX11 43, w ∈ wsX11_blank := by decide +kernel
  have hk_130 := hts (.fieldLink RX11 130 "StenoRoomModel" "length" "I") (by decide +kernel)
  have hk_133 := hts (.fieldLink RX11 133 "StenoRoomModel" "link" "I") (by decide +kernel)
  have kb20 : ∀ (c_length : Int32) (c_link : Int32) (a_text : (Nat → Int32)) (H : Heap) (locs : List Loc) (ls : Array Slot), jf_Model_blank_b20 c_length c_link a_text = some T → va_P E.1 vwCl (jw_Model_blank E q_this q_tape q_taken q_strokeMany q_kind q_textMany q_strokes q_texts q_record q_itsEntry q_itsFirst q_text q_lengthAhead q_lengthBehind q_chord q_asked q_way q_wayStrokes q_wayMany q_best q_tried q_plan q_made q_trial q_two c_taped c_entries c_recorded c_translations c_length c_shift c_link c_chordMany c_lastMany c_bestMany c_bestStrokes c_triedMany c_triedStrokes c_planMany c_planStrokes c_madeMany c_madeStrokes c_isClear c_isPlanned a_text) H → va_D A (jw_Model_blank E q_this q_tape q_taken q_strokeMany q_kind q_textMany q_strokes q_texts q_record q_itsEntry q_itsFirst q_text q_lengthAhead q_lengthBehind q_chord q_asked q_way q_wayStrokes q_wayMany q_best q_tried q_plan q_made q_trial q_two c_taped c_entries c_recorded c_translations c_length c_shift c_link c_chordMany c_lastMany c_bestMany c_bestStrokes c_triedMany c_triedStrokes c_planMany c_planStrokes c_madeMany c_madeStrokes c_isClear c_isPlanned a_text) → va_S A s.heap H locs → lv_has ls 1 [(0, .ref q_this)] → W p l e jr_Model_blank s m args below meth c H locs 0 0 Q (F0 m 20 ls []) := by
    intro  c_length c_link a_text H locs ls h hP hD hS hl
    unfold jf_Model_blank_b20 at h
    refine lv_aload_n hx hb dX11_blank_20 rfl (lv_at hl 0 rfl) ?_
    refine lv_iconst (v := 0) hx hb dX11_blank_21 (by decide) ?_
    refine va_put (D := E.1) (ci := 11) (v := .int 0) (ty := .int) (C := RX11) (T := TX11) (N := 43) hx hb hts hin11 tyX11 tyX11_ok nmX11 hown hK.1 hP hD hS 0 rfl rfl 19 (by decide) hk_133 (fun _ h9 => h9) rfl (by decide +kernel) rfl rfl (Nat.le_of_ble_eq_true rfl) dX11_blank_22 (fun H locs hP hD hS => ?_)
    replace hP : va_P E.1 vwCl (jw_Model_blank E q_this q_tape q_taken q_strokeMany q_kind q_textMany q_strokes q_texts q_record q_itsEntry q_itsFirst q_text q_lengthAhead q_lengthBehind q_chord q_asked q_way q_wayStrokes q_wayMany q_best q_tried q_plan q_made q_trial q_two c_taped c_entries c_recorded c_translations c_length c_shift 0 c_chordMany c_lastMany c_bestMany c_bestStrokes c_triedMany c_triedStrokes c_planMany c_planStrokes c_madeMany c_madeStrokes c_isClear c_isPlanned a_text) H := hP
    replace hD : va_D A (jw_Model_blank E q_this q_tape q_taken q_strokeMany q_kind q_textMany q_strokes q_texts q_record q_itsEntry q_itsFirst q_text q_lengthAhead q_lengthBehind q_chord q_asked q_way q_wayStrokes q_wayMany q_best q_tried q_plan q_made q_trial q_two c_taped c_entries c_recorded c_translations c_length c_shift 0 c_chordMany c_lastMany c_bestMany c_bestStrokes c_triedMany c_triedStrokes c_planMany c_planStrokes c_madeMany c_madeStrokes c_isClear c_isPlanned a_text) := hD
    exact j_vret (u := (c_length, 0, a_text)) (wv := (fun T => (jw_Model_blank E q_this q_tape q_taken q_strokeMany q_kind q_textMany q_strokes q_texts q_record q_itsEntry q_itsFirst q_text q_lengthAhead q_lengthBehind q_chord q_asked q_way q_wayStrokes q_wayMany q_best q_tried q_plan q_made q_trial q_two c_taped c_entries c_recorded c_translations T.1 c_shift T.2.1 c_chordMany c_lastMany c_bestMany c_bestStrokes c_triedMany c_triedStrokes c_planMany c_planStrokes c_madeMany c_madeStrokes c_isClear c_isPlanned T.2.2))) h hQ hx hb hr hlocks hS hP hD dX11_blank_25
  unfold jf_Model_blank at h
  refine lv_aload_n hx hb dX11_blank_0 rfl (lv_at hl 0 rfl) ?_
  refine va_get (D := E.1) (ci := 11) (v := .int c_length) (C := RX11) (T := TX11) (N := 43) hx hb hts hin11 hown hK.1 hP 0 rfl rfl 17 (by decide) hk_130 (fun _ h9 => h9) rfl dX11_blank_1 ?_
  refine lv_if_le (tgt := 20) hx hb dX11_blank_4 (by decide) (fun hq4 => ?_) (fun hq4 => ?_)
  · replace h := jif_t hq4 h
    exact kb20   c_length c_link a_text _ _ _ h hP hD hS (lv_sub hl [0] rfl)
  · replace h := jif_f hq4 h
    refine lv_aload_n hx hb dX11_blank_7 rfl (lv_at hl 0 rfl) ?_
    refine va_get (D := E.1) (ci := 11) (v := .int c_link) (C := RX11) (T := TX11) (N := 43) hx hb hts hin11 hown hK.1 hP 0 rfl rfl 19 (by decide) hk_133 (fun _ h9 => h9) rfl dX11_blank_8 ?_
    refine lv_if_ne (tgt := 20) hx hb dX11_blank_11 (by decide) (fun hq11 => ?_) (fun hq11 => ?_)
    · replace h := jif_f hq11 h
      exact kb20   c_length c_link a_text _ _ _ h hP hD hS (lv_sub hl [0] rfl)
    · replace h := jif_t hq11 h
      refine lv_aload_n hx hb dX11_blank_14 rfl (lv_at hl 0 rfl) ?_
      refine lv_bipush (v := 32) hx hb dX11_blank_15 (by decide) ?_
      obtain ⟨⟨c_length_17, a_text_17⟩, hf17, h⟩ := jbd h
      refine j_callVv (own := RX11) (As := [.int 32]) (rest := []) hx hb hml hown hts hK hA hP hD hS (jc_Model_puts l E q_this q_tape q_taken q_strokeMany q_kind q_textMany q_strokes q_texts q_record q_itsEntry q_itsFirst q_text q_lengthAhead q_lengthBehind q_chord q_asked q_way q_wayStrokes q_wayMany q_best q_tried q_plan q_made q_trial q_two c_taped c_entries c_recorded c_translations c_length c_shift c_link c_chordMany c_lastMany c_bestMany c_bestStrokes c_triedMany c_triedStrokes c_planMany c_planStrokes c_madeMany c_madeStrokes c_isClear c_isPlanned a_text 32 N hf17) gX11_blank_X11_puts rfl ⟨rfl, rfl⟩ 1 (by decide +kernel) rfl rfl 0 11 rfl rfl [0, 1] [] [0, 1] rfl rfl rfl rfl rfl rfl rfl hl.1 rfl rfl dX11_blank_17 (fun H locs hP hD hS => ?_)
      replace hP : va_P E.1 vwCl (jw_Model_blank E q_this q_tape q_taken q_strokeMany q_kind q_textMany q_strokes q_texts q_record q_itsEntry q_itsFirst q_text q_lengthAhead q_lengthBehind q_chord q_asked q_way q_wayStrokes q_wayMany q_best q_tried q_plan q_made q_trial q_two c_taped c_entries c_recorded c_translations c_length_17 c_shift c_link c_chordMany c_lastMany c_bestMany c_bestStrokes c_triedMany c_triedStrokes c_planMany c_planStrokes c_madeMany c_madeStrokes c_isClear c_isPlanned a_text_17) H := hP
      replace hD : va_D A (jw_Model_blank E q_this q_tape q_taken q_strokeMany q_kind q_textMany q_strokes q_texts q_record q_itsEntry q_itsFirst q_text q_lengthAhead q_lengthBehind q_chord q_asked q_way q_wayStrokes q_wayMany q_best q_tried q_plan q_made q_trial q_two c_taped c_entries c_recorded c_translations c_length_17 c_shift c_link c_chordMany c_lastMany c_bestMany c_bestStrokes c_triedMany c_triedStrokes c_planMany c_planStrokes c_madeMany c_madeStrokes c_isClear c_isPlanned a_text_17) := hD
      exact kb20   c_length_17 c_link a_text_17 _ _ _ h hP hD hS (lv_sub hl [0] rfl)
abbrev jw_Model_word (E : jE) (q_this q_tape q_taken q_strokeMany q_kind q_textMany q_strokes q_texts q_record q_itsEntry q_itsFirst q_text q_lengthAhead q_lengthBehind q_chord q_asked q_way q_wayStrokes q_wayMany q_best q_tried q_plan q_made q_trial q_two : Nat) (c_taped : Int32) (c_entries : Int32) (c_recorded : Int32) (c_translations : Int32) (c_length : Int32) (c_shift : Int32) (c_link : Int32) (c_chordMany : Int32) (c_lastMany : Int32) (c_bestMany : Int32) (c_bestStrokes : Int32) (c_triedMany : Int32) (c_triedStrokes : Int32) (c_planMany : Int32) (c_planStrokes : Int32) (c_madeMany : Int32) (c_madeStrokes : Int32) (c_isClear : Int32) (c_isPlanned : Int32) (a_text : (Nat → Int32)) (a_textMany : (Nat → Int32)) (a_texts : (Nat → Int32)) : va_W := [(q_this, .inr (11, [.ref q_tape, .ref q_taken, .int c_taped, .int c_entries, .ref q_strokeMany, .ref q_kind, .ref q_textMany, .ref q_strokes, .ref q_texts, .ref q_record, .int c_recorded, .ref q_itsEntry, .ref q_itsFirst, .int c_translations, .ref q_text, .ref q_lengthAhead, .ref q_lengthBehind, .int c_length, .int c_shift, .int c_link, .ref q_chord, .int c_chordMany, .int c_lastMany, .ref q_asked, .ref q_way, .ref q_wayStrokes, .ref q_wayMany, .ref q_best, .ref q_tried, .ref q_plan, .ref q_made, .int c_bestMany, .int c_bestStrokes, .int c_triedMany, .int c_triedStrokes, .int c_planMany, .int c_planStrokes, .int c_madeMany, .int c_madeStrokes, .int c_isClear, .int c_isPlanned, .ref q_trial, .ref q_two])), (q_text, .inl (E.2.1, 8000, .inl a_text)), (q_textMany, .inl (E.2.2.1, 61, .inl a_textMany)), (q_texts, .inl (E.2.1, 976, .inl a_texts))]
def jr_Model_word : Room := { frames := 2, cells := 0, slots := 0, locals := 41 }
set_option maxHeartbeats 4000000 in
set_option maxRecDepth 100000 in
theorem jc_Model_word (l : Launch) (E : jE) (q_this q_tape q_taken q_strokeMany q_kind q_textMany q_strokes q_texts q_record q_itsEntry q_itsFirst q_text q_lengthAhead q_lengthBehind q_chord q_asked q_way q_wayStrokes q_wayMany q_best q_tried q_plan q_made q_trial q_two : Nat) (c_taped : Int32) (c_entries : Int32) (c_recorded : Int32) (c_translations : Int32) (c_length : Int32) (c_shift : Int32) (c_link : Int32) (c_chordMany : Int32) (c_lastMany : Int32) (c_bestMany : Int32) (c_bestStrokes : Int32) (c_triedMany : Int32) (c_triedStrokes : Int32) (c_planMany : Int32) (c_planStrokes : Int32) (c_madeMany : Int32) (c_madeStrokes : Int32) (c_isClear : Int32) (c_isPlanned : Int32) (a_text : (Nat → Int32)) (a_textMany : (Nat → Int32)) (a_texts : (Nat → Int32)) (x1 : Int32) (x2 : Int32) (N : Nat) {T : Int32 × Int32 × Int32 × (Nat → Int32)} (h : jf_Model_word N x1 x2 a_textMany a_texts c_length c_shift c_link a_text = some T) : jMv l yX11_word wsX11_word jr_Model_word E [.ref q_this, .int x1, .int x2] (jw_Model_word E q_this q_tape q_taken q_strokeMany q_kind q_textMany q_strokes q_texts q_record q_itsEntry q_itsFirst q_text q_lengthAhead q_lengthBehind q_chord q_asked q_way q_wayStrokes q_wayMany q_best q_tried q_plan q_made q_trial q_two c_taped c_entries c_recorded c_translations c_length c_shift c_link c_chordMany c_lastMany c_bestMany c_bestStrokes c_triedMany c_triedStrokes c_planMany c_planStrokes c_madeMany c_madeStrokes c_isClear c_isPlanned a_text a_textMany a_texts) (jw_Model_word E q_this q_tape q_taken q_strokeMany q_kind q_textMany q_strokes q_texts q_record q_itsEntry q_itsFirst q_text q_lengthAhead q_lengthBehind q_chord q_asked q_way q_wayStrokes q_wayMany q_best q_tried q_plan q_made q_trial q_two c_taped c_entries c_recorded c_translations T.1 T.2.1 T.2.2.1 c_chordMany c_lastMany c_bestMany c_bestStrokes c_triedMany c_triedStrokes c_planMany c_planStrokes c_madeMany c_madeStrokes c_isClear c_isPlanned T.2.2.2 a_textMany a_texts) := by
  refine jMv.begin (cc := cX11_word) (maxL := 5) (ret := none) (by decide) rfl (Nat.le_of_ble_eq_true rfl) ?_
  intro p e s m args below meth c A ls Q hQ hx hb hr hml hown hlocks hts hK hA hP hD hS hl
  replace hown : s.vm.findClass RX11 = some m.cls := hown
  replace hl : lv_has ls 5 [(0, .ref q_this), (1, .int x1), (2, .int x2)] := hl
  have hin11 : ∀ w ∈ u_ws RX11 TX11 43, w ∈ wsX11_word := by decide +kernel
  have hk_23 := hts (.fieldLink RX11 23 "StenoRoomModel" "textMany" "[I") (by decide +kernel)
  have hk_133 := hts (.fieldLink RX11 133 "StenoRoomModel" "link" "I") (by decide +kernel)
  have hk_146 := hts (.fieldLink RX11 146 "StenoRoomModel" "shift" "I") (by decide +kernel)
  have kb73 : ∀ (c_length : Int32) (c_shift : Int32) (c_link : Int32) (a_text : (Nat → Int32)) (H : Heap) (locs : List Loc) (ls : Array Slot), jf_Model_word_b73 c_length c_shift c_link a_text = some T → va_P E.1 vwCl (jw_Model_word E q_this q_tape q_taken q_strokeMany q_kind q_textMany q_strokes q_texts q_record q_itsEntry q_itsFirst q_text q_lengthAhead q_lengthBehind q_chord q_asked q_way q_wayStrokes q_wayMany q_best q_tried q_plan q_made q_trial q_two c_taped c_entries c_recorded c_translations c_length c_shift c_link c_chordMany c_lastMany c_bestMany c_bestStrokes c_triedMany c_triedStrokes c_planMany c_planStrokes c_madeMany c_madeStrokes c_isClear c_isPlanned a_text a_textMany a_texts) H → va_D A (jw_Model_word E q_this q_tape q_taken q_strokeMany q_kind q_textMany q_strokes q_texts q_record q_itsEntry q_itsFirst q_text q_lengthAhead q_lengthBehind q_chord q_asked q_way q_wayStrokes q_wayMany q_best q_tried q_plan q_made q_trial q_two c_taped c_entries c_recorded c_translations c_length c_shift c_link c_chordMany c_lastMany c_bestMany c_bestStrokes c_triedMany c_triedStrokes c_planMany c_planStrokes c_madeMany c_madeStrokes c_isClear c_isPlanned a_text a_textMany a_texts) → va_S A s.heap H locs → lv_has ls 5 [(0, .ref q_this)] → W p l e jr_Model_word s m args below meth c H locs 0 0 Q (F0 m 73 ls []) := by
    intro  c_length c_shift c_link a_text H locs ls h hP hD hS hl
    unfold jf_Model_word_b73 at h
    refine lv_aload_n hx hb dX11_word_73 rfl (lv_at hl 0 rfl) ?_
    refine lv_iconst (v := 0) hx hb dX11_word_74 (by decide) ?_
    refine va_put (D := E.1) (ci := 11) (v := .int 0) (ty := .int) (C := RX11) (T := TX11) (N := 43) hx hb hts hin11 tyX11 tyX11_ok nmX11 hown hK.1 hP hD hS 0 rfl rfl 18 (by decide) hk_146 (fun _ h9 => h9) rfl (by decide +kernel) rfl rfl (Nat.le_of_ble_eq_true rfl) dX11_word_75 (fun H locs hP hD hS => ?_)
    replace hP : va_P E.1 vwCl (jw_Model_word E q_this q_tape q_taken q_strokeMany q_kind q_textMany q_strokes q_texts q_record q_itsEntry q_itsFirst q_text q_lengthAhead q_lengthBehind q_chord q_asked q_way q_wayStrokes q_wayMany q_best q_tried q_plan q_made q_trial q_two c_taped c_entries c_recorded c_translations c_length 0 c_link c_chordMany c_lastMany c_bestMany c_bestStrokes c_triedMany c_triedStrokes c_planMany c_planStrokes c_madeMany c_madeStrokes c_isClear c_isPlanned a_text a_textMany a_texts) H := hP
    replace hD : va_D A (jw_Model_word E q_this q_tape q_taken q_strokeMany q_kind q_textMany q_strokes q_texts q_record q_itsEntry q_itsFirst q_text q_lengthAhead q_lengthBehind q_chord q_asked q_way q_wayStrokes q_wayMany q_best q_tried q_plan q_made q_trial q_two c_taped c_entries c_recorded c_translations c_length 0 c_link c_chordMany c_lastMany c_bestMany c_bestStrokes c_triedMany c_triedStrokes c_planMany c_planStrokes c_madeMany c_madeStrokes c_isClear c_isPlanned a_text a_textMany a_texts) := hD
    exact j_vret (u := (c_length, 0, c_link, a_text)) (wv := (fun T => (jw_Model_word E q_this q_tape q_taken q_strokeMany q_kind q_textMany q_strokes q_texts q_record q_itsEntry q_itsFirst q_text q_lengthAhead q_lengthBehind q_chord q_asked q_way q_wayStrokes q_wayMany q_best q_tried q_plan q_made q_trial q_two c_taped c_entries c_recorded c_translations T.1 T.2.1 T.2.2.1 c_chordMany c_lastMany c_bestMany c_bestStrokes c_triedMany c_triedStrokes c_planMany c_planStrokes c_madeMany c_madeStrokes c_isClear c_isPlanned T.2.2.2 a_textMany a_texts))) h hQ hx hb hr hlocks hS hP hD dX11_word_78
  have kb64 : ∀ (k15 : Int32 → Int32 → Int32 → Int32 → (Nat → Int32) → Option (Int32 × Int32 × Int32 × (Nat → Int32))) (hk15 : ∀ (x3 : Int32) (c_length : Int32) (c_shift : Int32) (c_link : Int32) (a_text : (Nat → Int32)) (H : Heap) (locs : List Loc) (ls : Array Slot), k15 x3 c_length c_shift c_link a_text = some T → va_P E.1 vwCl (jw_Model_word E q_this q_tape q_taken q_strokeMany q_kind q_textMany q_strokes q_texts q_record q_itsEntry q_itsFirst q_text q_lengthAhead q_lengthBehind q_chord q_asked q_way q_wayStrokes q_wayMany q_best q_tried q_plan q_made q_trial q_two c_taped c_entries c_recorded c_translations c_length c_shift c_link c_chordMany c_lastMany c_bestMany c_bestStrokes c_triedMany c_triedStrokes c_planMany c_planStrokes c_madeMany c_madeStrokes c_isClear c_isPlanned a_text a_textMany a_texts) H → va_D A (jw_Model_word E q_this q_tape q_taken q_strokeMany q_kind q_textMany q_strokes q_texts q_record q_itsEntry q_itsFirst q_text q_lengthAhead q_lengthBehind q_chord q_asked q_way q_wayStrokes q_wayMany q_best q_tried q_plan q_made q_trial q_two c_taped c_entries c_recorded c_translations c_length c_shift c_link c_chordMany c_lastMany c_bestMany c_bestStrokes c_triedMany c_triedStrokes c_planMany c_planStrokes c_madeMany c_madeStrokes c_isClear c_isPlanned a_text a_textMany a_texts) → va_S A s.heap H locs → lv_has ls 5 [(0, .ref q_this), (1, .int x1), (3, .int x3)] → W p l e jr_Model_word s m args below meth c H locs 0 0 Q (F0 m 15 ls [])) (x3 : Int32) (z1 : Int32) (c_length : Int32) (c_shift : Int32) (c_link : Int32) (a_text : (Nat → Int32)) (H : Heap) (locs : List Loc) (ls : Array Slot), jf_Model_word_b64 k15 x3 z1 c_length c_shift c_link a_text = some T → va_P E.1 vwCl (jw_Model_word E q_this q_tape q_taken q_strokeMany q_kind q_textMany q_strokes q_texts q_record q_itsEntry q_itsFirst q_text q_lengthAhead q_lengthBehind q_chord q_asked q_way q_wayStrokes q_wayMany q_best q_tried q_plan q_made q_trial q_two c_taped c_entries c_recorded c_translations c_length c_shift c_link c_chordMany c_lastMany c_bestMany c_bestStrokes c_triedMany c_triedStrokes c_planMany c_planStrokes c_madeMany c_madeStrokes c_isClear c_isPlanned a_text a_textMany a_texts) H → va_D A (jw_Model_word E q_this q_tape q_taken q_strokeMany q_kind q_textMany q_strokes q_texts q_record q_itsEntry q_itsFirst q_text q_lengthAhead q_lengthBehind q_chord q_asked q_way q_wayStrokes q_wayMany q_best q_tried q_plan q_made q_trial q_two c_taped c_entries c_recorded c_translations c_length c_shift c_link c_chordMany c_lastMany c_bestMany c_bestStrokes c_triedMany c_triedStrokes c_planMany c_planStrokes c_madeMany c_madeStrokes c_isClear c_isPlanned a_text a_textMany a_texts) → va_S A s.heap H locs → lv_has ls 5 [(0, .ref q_this), (1, .int x1), (3, .int x3)] → W p l e jr_Model_word s m args below meth c H locs 0 0 Q (F0 m 64 ls [.int z1, .ref q_this]) := by
    intro k15 hk15 x3 z1 c_length c_shift c_link a_text H locs ls h hP hD hS hl
    unfold jf_Model_word_b64 at h
    obtain ⟨⟨c_length_64, a_text_64⟩, hf64, h⟩ := jbd h
    refine j_callVv (own := RX11) (As := [.int z1]) (rest := []) hx hb hml hown hts hK hA hP hD hS (jc_Model_puts l E q_this q_tape q_taken q_strokeMany q_kind q_textMany q_strokes q_texts q_record q_itsEntry q_itsFirst q_text q_lengthAhead q_lengthBehind q_chord q_asked q_way q_wayStrokes q_wayMany q_best q_tried q_plan q_made q_trial q_two c_taped c_entries c_recorded c_translations c_length c_shift c_link c_chordMany c_lastMany c_bestMany c_bestStrokes c_triedMany c_triedStrokes c_planMany c_planStrokes c_madeMany c_madeStrokes c_isClear c_isPlanned a_text z1 N hf64) gX11_word_X11_puts rfl ⟨rfl, rfl⟩ 1 (by decide +kernel) rfl rfl 0 11 rfl rfl [0, 1] [2, 3] [2, 3, 0, 1] rfl rfl rfl rfl rfl rfl rfl hl.1 rfl rfl dX11_word_64 (fun H locs hP hD hS => ?_)
    replace hP : va_P E.1 vwCl (jw_Model_word E q_this q_tape q_taken q_strokeMany q_kind q_textMany q_strokes q_texts q_record q_itsEntry q_itsFirst q_text q_lengthAhead q_lengthBehind q_chord q_asked q_way q_wayStrokes q_wayMany q_best q_tried q_plan q_made q_trial q_two c_taped c_entries c_recorded c_translations c_length_64 c_shift c_link c_chordMany c_lastMany c_bestMany c_bestStrokes c_triedMany c_triedStrokes c_planMany c_planStrokes c_madeMany c_madeStrokes c_isClear c_isPlanned a_text_64 a_textMany a_texts) H := hP
    replace hD : va_D A (jw_Model_word E q_this q_tape q_taken q_strokeMany q_kind q_textMany q_strokes q_texts q_record q_itsEntry q_itsFirst q_text q_lengthAhead q_lengthBehind q_chord q_asked q_way q_wayStrokes q_wayMany q_best q_tried q_plan q_made q_trial q_two c_taped c_entries c_recorded c_translations c_length_64 c_shift c_link c_chordMany c_lastMany c_bestMany c_bestStrokes c_triedMany c_triedStrokes c_planMany c_planStrokes c_madeMany c_madeStrokes c_isClear c_isPlanned a_text_64 a_textMany a_texts) := hD
    refine lv_iinc (v := (x3 + 1)) (lv' := [(3, .int (x3 + 1)), (0, .ref q_this), (1, .int x1)]) hx hb dX11_word_67 hl (k := 2) rfl rfl (by decide) rfl (fun ls hl => ?_)
    refine lv_goto (tgt := 15) hx hb dX11_word_70 (by decide) ?_
    exact hk15 (x3 + 1) c_length_64 c_shift c_link a_text_64 _ _ _ h hP hD hS (lv_sub hl [1, 2, 0] rfl)
  have kb54 : ∀ (k15 : Int32 → Int32 → Int32 → Int32 → (Nat → Int32) → Option (Int32 × Int32 × Int32 × (Nat → Int32))) (hk15 : ∀ (x3 : Int32) (c_length : Int32) (c_shift : Int32) (c_link : Int32) (a_text : (Nat → Int32)) (H : Heap) (locs : List Loc) (ls : Array Slot), k15 x3 c_length c_shift c_link a_text = some T → va_P E.1 vwCl (jw_Model_word E q_this q_tape q_taken q_strokeMany q_kind q_textMany q_strokes q_texts q_record q_itsEntry q_itsFirst q_text q_lengthAhead q_lengthBehind q_chord q_asked q_way q_wayStrokes q_wayMany q_best q_tried q_plan q_made q_trial q_two c_taped c_entries c_recorded c_translations c_length c_shift c_link c_chordMany c_lastMany c_bestMany c_bestStrokes c_triedMany c_triedStrokes c_planMany c_planStrokes c_madeMany c_madeStrokes c_isClear c_isPlanned a_text a_textMany a_texts) H → va_D A (jw_Model_word E q_this q_tape q_taken q_strokeMany q_kind q_textMany q_strokes q_texts q_record q_itsEntry q_itsFirst q_text q_lengthAhead q_lengthBehind q_chord q_asked q_way q_wayStrokes q_wayMany q_best q_tried q_plan q_made q_trial q_two c_taped c_entries c_recorded c_translations c_length c_shift c_link c_chordMany c_lastMany c_bestMany c_bestStrokes c_triedMany c_triedStrokes c_planMany c_planStrokes c_madeMany c_madeStrokes c_isClear c_isPlanned a_text a_textMany a_texts) → va_S A s.heap H locs → lv_has ls 5 [(0, .ref q_this), (1, .int x1), (3, .int x3)] → W p l e jr_Model_word s m args below meth c H locs 0 0 Q (F0 m 15 ls [])) (x3 : Int32) (x4 : Int32) (c_length : Int32) (c_shift : Int32) (c_link : Int32) (a_text : (Nat → Int32)) (H : Heap) (locs : List Loc) (ls : Array Slot), jf_Model_word_b54 k15 x3 x4 c_length c_shift c_link a_text = some T → va_P E.1 vwCl (jw_Model_word E q_this q_tape q_taken q_strokeMany q_kind q_textMany q_strokes q_texts q_record q_itsEntry q_itsFirst q_text q_lengthAhead q_lengthBehind q_chord q_asked q_way q_wayStrokes q_wayMany q_best q_tried q_plan q_made q_trial q_two c_taped c_entries c_recorded c_translations c_length c_shift c_link c_chordMany c_lastMany c_bestMany c_bestStrokes c_triedMany c_triedStrokes c_planMany c_planStrokes c_madeMany c_madeStrokes c_isClear c_isPlanned a_text a_textMany a_texts) H → va_D A (jw_Model_word E q_this q_tape q_taken q_strokeMany q_kind q_textMany q_strokes q_texts q_record q_itsEntry q_itsFirst q_text q_lengthAhead q_lengthBehind q_chord q_asked q_way q_wayStrokes q_wayMany q_best q_tried q_plan q_made q_trial q_two c_taped c_entries c_recorded c_translations c_length c_shift c_link c_chordMany c_lastMany c_bestMany c_bestStrokes c_triedMany c_triedStrokes c_planMany c_planStrokes c_madeMany c_madeStrokes c_isClear c_isPlanned a_text a_textMany a_texts) → va_S A s.heap H locs → lv_has ls 5 [(0, .ref q_this), (1, .int x1), (3, .int x3), (4, .int x4)] → W p l e jr_Model_word s m args below meth c H locs 0 0 Q (F0 m 54 ls [.ref q_this]) := by
    intro k15 hk15 x3 x4 c_length c_shift c_link a_text H locs ls h hP hD hS hl
    unfold jf_Model_word_b54 at h
    refine lv_iload hx hb dX11_word_54 (lv_at hl 3 rfl) ?_
    refine lv_bipush (v := 32) hx hb dX11_word_56 (by decide) ?_
    refine lv_isub hx hb dX11_word_58 ?_
    refine lv_goto (tgt := 64) hx hb dX11_word_59 (by decide) ?_
    exact kb64 k15 hk15  x3 (x4 - 32) c_length c_shift c_link a_text _ _ _ h hP hD hS (lv_sub hl [0, 1, 2] rfl)
  have kb62 : ∀ (k15 : Int32 → Int32 → Int32 → Int32 → (Nat → Int32) → Option (Int32 × Int32 × Int32 × (Nat → Int32))) (hk15 : ∀ (x3 : Int32) (c_length : Int32) (c_shift : Int32) (c_link : Int32) (a_text : (Nat → Int32)) (H : Heap) (locs : List Loc) (ls : Array Slot), k15 x3 c_length c_shift c_link a_text = some T → va_P E.1 vwCl (jw_Model_word E q_this q_tape q_taken q_strokeMany q_kind q_textMany q_strokes q_texts q_record q_itsEntry q_itsFirst q_text q_lengthAhead q_lengthBehind q_chord q_asked q_way q_wayStrokes q_wayMany q_best q_tried q_plan q_made q_trial q_two c_taped c_entries c_recorded c_translations c_length c_shift c_link c_chordMany c_lastMany c_bestMany c_bestStrokes c_triedMany c_triedStrokes c_planMany c_planStrokes c_madeMany c_madeStrokes c_isClear c_isPlanned a_text a_textMany a_texts) H → va_D A (jw_Model_word E q_this q_tape q_taken q_strokeMany q_kind q_textMany q_strokes q_texts q_record q_itsEntry q_itsFirst q_text q_lengthAhead q_lengthBehind q_chord q_asked q_way q_wayStrokes q_wayMany q_best q_tried q_plan q_made q_trial q_two c_taped c_entries c_recorded c_translations c_length c_shift c_link c_chordMany c_lastMany c_bestMany c_bestStrokes c_triedMany c_triedStrokes c_planMany c_planStrokes c_madeMany c_madeStrokes c_isClear c_isPlanned a_text a_textMany a_texts) → va_S A s.heap H locs → lv_has ls 5 [(0, .ref q_this), (1, .int x1), (3, .int x3)] → W p l e jr_Model_word s m args below meth c H locs 0 0 Q (F0 m 15 ls [])) (x3 : Int32) (x4 : Int32) (c_length : Int32) (c_shift : Int32) (c_link : Int32) (a_text : (Nat → Int32)) (H : Heap) (locs : List Loc) (ls : Array Slot), jf_Model_word_b62 k15 x3 x4 c_length c_shift c_link a_text = some T → va_P E.1 vwCl (jw_Model_word E q_this q_tape q_taken q_strokeMany q_kind q_textMany q_strokes q_texts q_record q_itsEntry q_itsFirst q_text q_lengthAhead q_lengthBehind q_chord q_asked q_way q_wayStrokes q_wayMany q_best q_tried q_plan q_made q_trial q_two c_taped c_entries c_recorded c_translations c_length c_shift c_link c_chordMany c_lastMany c_bestMany c_bestStrokes c_triedMany c_triedStrokes c_planMany c_planStrokes c_madeMany c_madeStrokes c_isClear c_isPlanned a_text a_textMany a_texts) H → va_D A (jw_Model_word E q_this q_tape q_taken q_strokeMany q_kind q_textMany q_strokes q_texts q_record q_itsEntry q_itsFirst q_text q_lengthAhead q_lengthBehind q_chord q_asked q_way q_wayStrokes q_wayMany q_best q_tried q_plan q_made q_trial q_two c_taped c_entries c_recorded c_translations c_length c_shift c_link c_chordMany c_lastMany c_bestMany c_bestStrokes c_triedMany c_triedStrokes c_planMany c_planStrokes c_madeMany c_madeStrokes c_isClear c_isPlanned a_text a_textMany a_texts) → va_S A s.heap H locs → lv_has ls 5 [(0, .ref q_this), (1, .int x1), (3, .int x3), (4, .int x4)] → W p l e jr_Model_word s m args below meth c H locs 0 0 Q (F0 m 62 ls [.ref q_this]) := by
    intro k15 hk15 x3 x4 c_length c_shift c_link a_text H locs ls h hP hD hS hl
    unfold jf_Model_word_b62 at h
    refine lv_iload hx hb dX11_word_62 (lv_at hl 3 rfl) ?_
    exact kb64 k15 hk15  x3 x4 c_length c_shift c_link a_text _ _ _ h hP hD hS (lv_sub hl [0, 1, 2] rfl)
  have kb15 : ∀ (n : Nat) (x3 : Int32) (c_length : Int32) (c_shift : Int32) (c_link : Int32) (a_text : (Nat → Int32)) (H : Heap) (locs : List Loc) (ls : Array Slot), jf_Model_word_b15 x1 a_textMany a_texts n x3 c_length c_shift c_link a_text = some T → va_P E.1 vwCl (jw_Model_word E q_this q_tape q_taken q_strokeMany q_kind q_textMany q_strokes q_texts q_record q_itsEntry q_itsFirst q_text q_lengthAhead q_lengthBehind q_chord q_asked q_way q_wayStrokes q_wayMany q_best q_tried q_plan q_made q_trial q_two c_taped c_entries c_recorded c_translations c_length c_shift c_link c_chordMany c_lastMany c_bestMany c_bestStrokes c_triedMany c_triedStrokes c_planMany c_planStrokes c_madeMany c_madeStrokes c_isClear c_isPlanned a_text a_textMany a_texts) H → va_D A (jw_Model_word E q_this q_tape q_taken q_strokeMany q_kind q_textMany q_strokes q_texts q_record q_itsEntry q_itsFirst q_text q_lengthAhead q_lengthBehind q_chord q_asked q_way q_wayStrokes q_wayMany q_best q_tried q_plan q_made q_trial q_two c_taped c_entries c_recorded c_translations c_length c_shift c_link c_chordMany c_lastMany c_bestMany c_bestStrokes c_triedMany c_triedStrokes c_planMany c_planStrokes c_madeMany c_madeStrokes c_isClear c_isPlanned a_text a_textMany a_texts) → va_S A s.heap H locs → lv_has ls 5 [(0, .ref q_this), (1, .int x1), (3, .int x3)] → W p l e jr_Model_word s m args below meth c H locs 0 0 Q (F0 m 15 ls []) := by
    intro n
    induction n with
    | zero => intro x3 c_length c_shift c_link a_text H locs ls h; exact j_none (α := Int32 × Int32 × Int32 × (Nat → Int32)) h
    | succ n ih =>
      intro x3 c_length c_shift c_link a_text H locs ls h hP hD hS hl
      rw [jf_Model_word_b15] at h
      refine lv_iload_n hx hb dX11_word_15 rfl (lv_at hl 2 rfl) ?_
      refine lv_aload_n hx hb dX11_word_16 rfl (lv_at hl 0 rfl) ?_
      refine va_get (D := E.1) (ci := 11) (v := .ref q_textMany) (C := RX11) (T := TX11) (N := 43) hx hb hts hin11 hown hK.1 hP 0 rfl rfl 6 (by decide) hk_23 (fun _ h9 => h9) rfl dX11_word_17 ?_
      refine lv_iload_n hx hb dX11_word_20 rfl (lv_at hl 1 rfl) ?_
      obtain ⟨g21, h⟩ := jga_e h
      refine va_iald hx hb hK.1 hP 2 1 rfl rfl g21 dX11_word_21 ?_
      refine lv_icmp_ge (tgt := 73) hx hb dX11_word_22 (by decide) (fun hq22 => ?_) (fun hq22 => ?_)
      · replace h := jif_t hq22 h
        exact kb73   c_length c_shift c_link a_text _ _ _ h hP hD hS (lv_sub hl [0] rfl)
      · replace h := jif_f hq22 h
        refine lv_aload_n hx hb dX11_word_25 rfl (lv_at hl 0 rfl) ?_
        refine lv_iload_n hx hb dX11_word_26 rfl (lv_at hl 1 rfl) ?_
        refine lv_iload_n hx hb dX11_word_27 rfl (lv_at hl 2 rfl) ?_
        obtain ⟨r28, hf28, h⟩ := jbd h
        refine j_callVi (own := RX11) (As := [.int x1, .int x3]) (rest := []) hx hb hml hown hts hK hA hP hD hS (jc_Model_byteOf l E q_this q_tape q_taken q_strokeMany q_kind q_textMany q_strokes q_texts q_record q_itsEntry q_itsFirst q_text q_lengthAhead q_lengthBehind q_chord q_asked q_way q_wayStrokes q_wayMany q_best q_tried q_plan q_made q_trial q_two c_taped c_entries c_recorded c_translations c_length c_shift c_link c_chordMany c_lastMany c_bestMany c_bestStrokes c_triedMany c_triedStrokes c_planMany c_planStrokes c_madeMany c_madeStrokes c_isClear c_isPlanned a_texts x1 x3 N hf28) gX11_word_X11_byteOf rfl ⟨rfl, rfl⟩ 2 (by decide +kernel) rfl rfl 0 11 rfl rfl [0, 3] [1, 2] [2, 0, 1, 3] rfl rfl rfl rfl rfl rfl rfl hl.1 rfl rfl dX11_word_28 (fun H locs hP hD hS => ?_)
        replace hP : va_P E.1 vwCl (jw_Model_word E q_this q_tape q_taken q_strokeMany q_kind q_textMany q_strokes q_texts q_record q_itsEntry q_itsFirst q_text q_lengthAhead q_lengthBehind q_chord q_asked q_way q_wayStrokes q_wayMany q_best q_tried q_plan q_made q_trial q_two c_taped c_entries c_recorded c_translations c_length c_shift c_link c_chordMany c_lastMany c_bestMany c_bestStrokes c_triedMany c_triedStrokes c_planMany c_planStrokes c_madeMany c_madeStrokes c_isClear c_isPlanned a_text a_textMany a_texts) H := hP
        replace hD : va_D A (jw_Model_word E q_this q_tape q_taken q_strokeMany q_kind q_textMany q_strokes q_texts q_record q_itsEntry q_itsFirst q_text q_lengthAhead q_lengthBehind q_chord q_asked q_way q_wayStrokes q_wayMany q_best q_tried q_plan q_made q_trial q_two c_taped c_entries c_recorded c_translations c_length c_shift c_link c_chordMany c_lastMany c_bestMany c_bestStrokes c_triedMany c_triedStrokes c_planMany c_planStrokes c_madeMany c_madeStrokes c_isClear c_isPlanned a_text a_textMany a_texts) := hD
        refine lv_istore (lv' := [(4, .int r28), (0, .ref q_this), (1, .int x1), (3, .int x3)]) hx hb dX11_word_31 hl (by decide) rfl (fun ls hl => ?_)
        refine lv_aload_n hx hb dX11_word_33 rfl (lv_at hl 1 rfl) ?_
        refine lv_aload_n hx hb dX11_word_34 rfl (lv_at hl 1 rfl) ?_
        refine va_get (D := E.1) (ci := 11) (v := .int c_shift) (C := RX11) (T := TX11) (N := 43) hx hb hts hin11 hown hK.1 hP 0 rfl rfl 18 (by decide) hk_146 (fun _ h9 => h9) rfl dX11_word_35 ?_
        refine lv_iconst (v := 2) hx hb dX11_word_38 (by decide) ?_
        refine lv_icmp_eq (tgt := 54) hx hb dX11_word_39 (by decide) (fun hq39 => ?_) (fun hq39 => ?_)
        · replace h := jif_t hq39 h
          exact kb54 (jf_Model_word_b15 x1 a_textMany a_texts n) ih  x3 r28 c_length c_shift c_link a_text _ _ _ h hP hD hS (lv_sub hl [1, 2, 3, 0] rfl)
        · replace h := jif_f hq39 h
          refine lv_aload_n hx hb dX11_word_42 rfl (lv_at hl 1 rfl) ?_
          refine va_get (D := E.1) (ci := 11) (v := .int c_shift) (C := RX11) (T := TX11) (N := 43) hx hb hts hin11 hown hK.1 hP 0 rfl rfl 18 (by decide) hk_146 (fun _ h9 => h9) rfl dX11_word_43 ?_
          refine lv_iconst (v := 1) hx hb dX11_word_46 (by decide) ?_
          refine lv_icmp_ne (tgt := 62) hx hb dX11_word_47 (by decide) (fun hq47 => ?_) (fun hq47 => ?_)
          · replace h := jif_f hq47 h
            exact kb62 (jf_Model_word_b15 x1 a_textMany a_texts n) ih  x3 r28 c_length c_shift c_link a_text _ _ _ h hP hD hS (lv_sub hl [1, 2, 3, 0] rfl)
          · replace h := jif_t hq47 h
            refine lv_iload_n hx hb dX11_word_50 rfl (lv_at hl 3 rfl) ?_
            refine lv_if_ne (tgt := 62) hx hb dX11_word_51 (by decide) (fun hq51 => ?_) (fun hq51 => ?_)
            · replace h := jif_f hq51 h
              exact kb62 (jf_Model_word_b15 x1 a_textMany a_texts n) ih  x3 r28 c_length c_shift c_link a_text _ _ _ h hP hD hS (lv_sub hl [1, 2, 3, 0] rfl)
            · replace h := jif_t hq51 h
              exact kb54 (jf_Model_word_b15 x1 a_textMany a_texts n) ih  x3 r28 c_length c_shift c_link a_text _ _ _ h hP hD hS (lv_sub hl [1, 2, 3, 0] rfl)
  have kb8 : ∀ (c_length : Int32) (c_shift : Int32) (c_link : Int32) (a_text : (Nat → Int32)) (H : Heap) (locs : List Loc) (ls : Array Slot), jf_Model_word_b8 N x1 a_textMany a_texts c_length c_shift c_link a_text = some T → va_P E.1 vwCl (jw_Model_word E q_this q_tape q_taken q_strokeMany q_kind q_textMany q_strokes q_texts q_record q_itsEntry q_itsFirst q_text q_lengthAhead q_lengthBehind q_chord q_asked q_way q_wayStrokes q_wayMany q_best q_tried q_plan q_made q_trial q_two c_taped c_entries c_recorded c_translations c_length c_shift c_link c_chordMany c_lastMany c_bestMany c_bestStrokes c_triedMany c_triedStrokes c_planMany c_planStrokes c_madeMany c_madeStrokes c_isClear c_isPlanned a_text a_textMany a_texts) H → va_D A (jw_Model_word E q_this q_tape q_taken q_strokeMany q_kind q_textMany q_strokes q_texts q_record q_itsEntry q_itsFirst q_text q_lengthAhead q_lengthBehind q_chord q_asked q_way q_wayStrokes q_wayMany q_best q_tried q_plan q_made q_trial q_two c_taped c_entries c_recorded c_translations c_length c_shift c_link c_chordMany c_lastMany c_bestMany c_bestStrokes c_triedMany c_triedStrokes c_planMany c_planStrokes c_madeMany c_madeStrokes c_isClear c_isPlanned a_text a_textMany a_texts) → va_S A s.heap H locs → lv_has ls 5 [(0, .ref q_this), (1, .int x1)] → W p l e jr_Model_word s m args below meth c H locs 0 0 Q (F0 m 8 ls []) := by
    intro  c_length c_shift c_link a_text H locs ls h hP hD hS hl
    unfold jf_Model_word_b8 at h
    refine lv_aload_n hx hb dX11_word_8 rfl (lv_at hl 0 rfl) ?_
    refine lv_iconst (v := 0) hx hb dX11_word_9 (by decide) ?_
    refine va_put (D := E.1) (ci := 11) (v := .int 0) (ty := .int) (C := RX11) (T := TX11) (N := 43) hx hb hts hin11 tyX11 tyX11_ok nmX11 hown hK.1 hP hD hS 0 rfl rfl 19 (by decide) hk_133 (fun _ h9 => h9) rfl (by decide +kernel) rfl rfl (Nat.le_of_ble_eq_true rfl) dX11_word_10 (fun H locs hP hD hS => ?_)
    replace hP : va_P E.1 vwCl (jw_Model_word E q_this q_tape q_taken q_strokeMany q_kind q_textMany q_strokes q_texts q_record q_itsEntry q_itsFirst q_text q_lengthAhead q_lengthBehind q_chord q_asked q_way q_wayStrokes q_wayMany q_best q_tried q_plan q_made q_trial q_two c_taped c_entries c_recorded c_translations c_length c_shift 0 c_chordMany c_lastMany c_bestMany c_bestStrokes c_triedMany c_triedStrokes c_planMany c_planStrokes c_madeMany c_madeStrokes c_isClear c_isPlanned a_text a_textMany a_texts) H := hP
    replace hD : va_D A (jw_Model_word E q_this q_tape q_taken q_strokeMany q_kind q_textMany q_strokes q_texts q_record q_itsEntry q_itsFirst q_text q_lengthAhead q_lengthBehind q_chord q_asked q_way q_wayStrokes q_wayMany q_best q_tried q_plan q_made q_trial q_two c_taped c_entries c_recorded c_translations c_length c_shift 0 c_chordMany c_lastMany c_bestMany c_bestStrokes c_triedMany c_triedStrokes c_planMany c_planStrokes c_madeMany c_madeStrokes c_isClear c_isPlanned a_text a_textMany a_texts) := hD
    refine lv_iconst (v := 0) hx hb dX11_word_13 (by decide) ?_
    refine lv_istore_n (lv' := [(3, .int 0), (0, .ref q_this), (1, .int x1)]) hx hb dX11_word_14 rfl hl (by decide) rfl (fun ls hl => ?_)
    exact kb15  N 0 c_length c_shift 0 a_text _ _ _ h hP hD hS (lv_sub hl [1, 2, 0] rfl)
  unfold jf_Model_word at h
  refine lv_iload_n hx hb dX11_word_0 rfl (lv_at hl 2 rfl) ?_
  refine lv_if_eq (tgt := 8) hx hb dX11_word_1 (by decide) (fun hq1 => ?_) (fun hq1 => ?_)
  · replace h := jif_t hq1 h
    exact kb8   c_length c_shift c_link a_text _ _ _ h hP hD hS (lv_sub hl [0, 1] rfl)
  · replace h := jif_f hq1 h
    refine lv_aload_n hx hb dX11_word_4 rfl (lv_at hl 0 rfl) ?_
    obtain ⟨⟨c_length_5, c_link_5, a_text_5⟩, hf5, h⟩ := jbd h
    refine j_callVv (own := RX11) (As := []) (rest := []) hx hb hml hown hts hK hA hP hD hS (jc_Model_blank l E q_this q_tape q_taken q_strokeMany q_kind q_textMany q_strokes q_texts q_record q_itsEntry q_itsFirst q_text q_lengthAhead q_lengthBehind q_chord q_asked q_way q_wayStrokes q_wayMany q_best q_tried q_plan q_made q_trial q_two c_taped c_entries c_recorded c_translations c_length c_shift c_link c_chordMany c_lastMany c_bestMany c_bestStrokes c_triedMany c_triedStrokes c_planMany c_planStrokes c_madeMany c_madeStrokes c_isClear c_isPlanned a_text N hf5) gX11_word_X11_blank rfl ⟨rfl, rfl⟩ 0 (by decide +kernel) rfl rfl 0 11 rfl rfl [0, 1] [2, 3] [2, 3, 0, 1] rfl rfl rfl rfl rfl rfl rfl hl.1 rfl rfl dX11_word_5 (fun H locs hP hD hS => ?_)
    replace hP : va_P E.1 vwCl (jw_Model_word E q_this q_tape q_taken q_strokeMany q_kind q_textMany q_strokes q_texts q_record q_itsEntry q_itsFirst q_text q_lengthAhead q_lengthBehind q_chord q_asked q_way q_wayStrokes q_wayMany q_best q_tried q_plan q_made q_trial q_two c_taped c_entries c_recorded c_translations c_length_5 c_shift c_link_5 c_chordMany c_lastMany c_bestMany c_bestStrokes c_triedMany c_triedStrokes c_planMany c_planStrokes c_madeMany c_madeStrokes c_isClear c_isPlanned a_text_5 a_textMany a_texts) H := hP
    replace hD : va_D A (jw_Model_word E q_this q_tape q_taken q_strokeMany q_kind q_textMany q_strokes q_texts q_record q_itsEntry q_itsFirst q_text q_lengthAhead q_lengthBehind q_chord q_asked q_way q_wayStrokes q_wayMany q_best q_tried q_plan q_made q_trial q_two c_taped c_entries c_recorded c_translations c_length_5 c_shift c_link_5 c_chordMany c_lastMany c_bestMany c_bestStrokes c_triedMany c_triedStrokes c_planMany c_planStrokes c_madeMany c_madeStrokes c_isClear c_isPlanned a_text_5 a_textMany a_texts) := hD
    exact kb8   c_length_5 c_shift c_link_5 a_text_5 _ _ _ h hP hD hS (lv_sub hl [0, 1] rfl)
abbrev jw_Model_letterOf (E : jE) : va_W := []
def jr_Model_letterOf : Room := { frames := 0, cells := 0, slots := 0, locals := 0 }
set_option maxHeartbeats 4000000 in
set_option maxRecDepth 100000 in
theorem jc_Model_letterOf (l : Launch) (E : jE) (x0 : Int32) (N : Nat) {T : Int32} (h : jf_Model_letterOf x0 = some T) : jMi l yX11_letterOf wsX11_letterOf jr_Model_letterOf E [.int x0] (jw_Model_letterOf E) (T) (jw_Model_letterOf E) := by
  refine jMi.begin (cc := cX11_letterOf) (maxL := 1) (ret := (some .int)) (by decide) rfl (Nat.le_of_ble_eq_true rfl) ?_
  intro p e s m args below meth c A ls Q hQ hx hb hr hml hown hlocks hts hK hA hP hD hS hl
  replace hown : s.vm.findClass RX11 = some m.cls := hown
  replace hl : lv_has ls 1 [(0, .int x0)] := hl
  unfold jf_Model_letterOf at h
  refine lv_iload_n hx hb dX11_letterOf_0 rfl (lv_at hl 0 rfl) ?_
  by_cases hq1_0 : x0 = 0
  · replace h := jif_t hq1_0 h
    refine lv_tableIn (off := 99) (tgt := 100) hx hb dX11_letterOf_1 (by rw [hq1_0]; decide) (by rw [hq1_0]; decide) (by rw [hq1_0]; rfl) (by decide) ?_
    refine lv_bipush (v := 83) hx hb dX11_letterOf_100 (by decide) ?_
    exact j_iret (u := 83) (rv := (fun T => T)) (wv := (fun _ => (jw_Model_letterOf E))) h hQ hx hb hr rfl hlocks hS hP hD dX11_letterOf_102
  replace h := jif_f hq1_0 h
  by_cases hq1_1 : x0 = 1
  · replace h := jif_t hq1_1 h
    refine lv_tableIn (off := 102) (tgt := 103) hx hb dX11_letterOf_1 (by rw [hq1_1]; decide) (by rw [hq1_1]; decide) (by rw [hq1_1]; rfl) (by decide) ?_
    refine lv_bipush (v := 84) hx hb dX11_letterOf_103 (by decide) ?_
    exact j_iret (u := 84) (rv := (fun T => T)) (wv := (fun _ => (jw_Model_letterOf E))) h hQ hx hb hr rfl hlocks hS hP hD dX11_letterOf_105
  replace h := jif_f hq1_1 h
  by_cases hq1_2 : x0 = 2
  · replace h := jif_t hq1_2 h
    refine lv_tableIn (off := 105) (tgt := 106) hx hb dX11_letterOf_1 (by rw [hq1_2]; decide) (by rw [hq1_2]; decide) (by rw [hq1_2]; rfl) (by decide) ?_
    refine lv_bipush (v := 75) hx hb dX11_letterOf_106 (by decide) ?_
    exact j_iret (u := 75) (rv := (fun T => T)) (wv := (fun _ => (jw_Model_letterOf E))) h hQ hx hb hr rfl hlocks hS hP hD dX11_letterOf_108
  replace h := jif_f hq1_2 h
  by_cases hq1_3 : x0 = 3
  · replace h := jif_t hq1_3 h
    refine lv_tableIn (off := 108) (tgt := 109) hx hb dX11_letterOf_1 (by rw [hq1_3]; decide) (by rw [hq1_3]; decide) (by rw [hq1_3]; rfl) (by decide) ?_
    refine lv_bipush (v := 80) hx hb dX11_letterOf_109 (by decide) ?_
    exact j_iret (u := 80) (rv := (fun T => T)) (wv := (fun _ => (jw_Model_letterOf E))) h hQ hx hb hr rfl hlocks hS hP hD dX11_letterOf_111
  replace h := jif_f hq1_3 h
  by_cases hq1_4 : x0 = 4
  · replace h := jif_t hq1_4 h
    refine lv_tableIn (off := 111) (tgt := 112) hx hb dX11_letterOf_1 (by rw [hq1_4]; decide) (by rw [hq1_4]; decide) (by rw [hq1_4]; rfl) (by decide) ?_
    refine lv_bipush (v := 87) hx hb dX11_letterOf_112 (by decide) ?_
    exact j_iret (u := 87) (rv := (fun T => T)) (wv := (fun _ => (jw_Model_letterOf E))) h hQ hx hb hr rfl hlocks hS hP hD dX11_letterOf_114
  replace h := jif_f hq1_4 h
  by_cases hq1_5 : x0 = 5
  · replace h := jif_t hq1_5 h
    refine lv_tableIn (off := 114) (tgt := 115) hx hb dX11_letterOf_1 (by rw [hq1_5]; decide) (by rw [hq1_5]; decide) (by rw [hq1_5]; rfl) (by decide) ?_
    refine lv_bipush (v := 72) hx hb dX11_letterOf_115 (by decide) ?_
    exact j_iret (u := 72) (rv := (fun T => T)) (wv := (fun _ => (jw_Model_letterOf E))) h hQ hx hb hr rfl hlocks hS hP hD dX11_letterOf_117
  replace h := jif_f hq1_5 h
  by_cases hq1_6 : x0 = 6
  · replace h := jif_t hq1_6 h
    refine lv_tableIn (off := 117) (tgt := 118) hx hb dX11_letterOf_1 (by rw [hq1_6]; decide) (by rw [hq1_6]; decide) (by rw [hq1_6]; rfl) (by decide) ?_
    refine lv_bipush (v := 82) hx hb dX11_letterOf_118 (by decide) ?_
    exact j_iret (u := 82) (rv := (fun T => T)) (wv := (fun _ => (jw_Model_letterOf E))) h hQ hx hb hr rfl hlocks hS hP hD dX11_letterOf_120
  replace h := jif_f hq1_6 h
  by_cases hq1_7 : x0 = 7
  · replace h := jif_t hq1_7 h
    refine lv_tableIn (off := 120) (tgt := 121) hx hb dX11_letterOf_1 (by rw [hq1_7]; decide) (by rw [hq1_7]; decide) (by rw [hq1_7]; rfl) (by decide) ?_
    refine lv_bipush (v := 65) hx hb dX11_letterOf_121 (by decide) ?_
    exact j_iret (u := 65) (rv := (fun T => T)) (wv := (fun _ => (jw_Model_letterOf E))) h hQ hx hb hr rfl hlocks hS hP hD dX11_letterOf_123
  replace h := jif_f hq1_7 h
  by_cases hq1_8 : x0 = 8
  · replace h := jif_t hq1_8 h
    refine lv_tableIn (off := 123) (tgt := 124) hx hb dX11_letterOf_1 (by rw [hq1_8]; decide) (by rw [hq1_8]; decide) (by rw [hq1_8]; rfl) (by decide) ?_
    refine lv_bipush (v := 79) hx hb dX11_letterOf_124 (by decide) ?_
    exact j_iret (u := 79) (rv := (fun T => T)) (wv := (fun _ => (jw_Model_letterOf E))) h hQ hx hb hr rfl hlocks hS hP hD dX11_letterOf_126
  replace h := jif_f hq1_8 h
  by_cases hq1_9 : x0 = 9
  · replace h := jif_t hq1_9 h
    refine lv_tableIn (off := 126) (tgt := 127) hx hb dX11_letterOf_1 (by rw [hq1_9]; decide) (by rw [hq1_9]; decide) (by rw [hq1_9]; rfl) (by decide) ?_
    refine lv_bipush (v := 42) hx hb dX11_letterOf_127 (by decide) ?_
    exact j_iret (u := 42) (rv := (fun T => T)) (wv := (fun _ => (jw_Model_letterOf E))) h hQ hx hb hr rfl hlocks hS hP hD dX11_letterOf_129
  replace h := jif_f hq1_9 h
  by_cases hq1_10 : x0 = 10
  · replace h := jif_t hq1_10 h
    refine lv_tableIn (off := 129) (tgt := 130) hx hb dX11_letterOf_1 (by rw [hq1_10]; decide) (by rw [hq1_10]; decide) (by rw [hq1_10]; rfl) (by decide) ?_
    refine lv_bipush (v := 69) hx hb dX11_letterOf_130 (by decide) ?_
    exact j_iret (u := 69) (rv := (fun T => T)) (wv := (fun _ => (jw_Model_letterOf E))) h hQ hx hb hr rfl hlocks hS hP hD dX11_letterOf_132
  replace h := jif_f hq1_10 h
  by_cases hq1_11 : x0 = 11
  · replace h := jif_t hq1_11 h
    refine lv_tableIn (off := 132) (tgt := 133) hx hb dX11_letterOf_1 (by rw [hq1_11]; decide) (by rw [hq1_11]; decide) (by rw [hq1_11]; rfl) (by decide) ?_
    refine lv_bipush (v := 85) hx hb dX11_letterOf_133 (by decide) ?_
    exact j_iret (u := 85) (rv := (fun T => T)) (wv := (fun _ => (jw_Model_letterOf E))) h hQ hx hb hr rfl hlocks hS hP hD dX11_letterOf_135
  replace h := jif_f hq1_11 h
  by_cases hq1_12 : x0 = 12
  · replace h := jif_t hq1_12 h
    refine lv_tableIn (off := 135) (tgt := 136) hx hb dX11_letterOf_1 (by rw [hq1_12]; decide) (by rw [hq1_12]; decide) (by rw [hq1_12]; rfl) (by decide) ?_
    refine lv_bipush (v := 70) hx hb dX11_letterOf_136 (by decide) ?_
    exact j_iret (u := 70) (rv := (fun T => T)) (wv := (fun _ => (jw_Model_letterOf E))) h hQ hx hb hr rfl hlocks hS hP hD dX11_letterOf_138
  replace h := jif_f hq1_12 h
  by_cases hq1_13 : x0 = 13
  · replace h := jif_t hq1_13 h
    refine lv_tableIn (off := 117) (tgt := 118) hx hb dX11_letterOf_1 (by rw [hq1_13]; decide) (by rw [hq1_13]; decide) (by rw [hq1_13]; rfl) (by decide) ?_
    refine lv_bipush (v := 82) hx hb dX11_letterOf_118 (by decide) ?_
    exact j_iret (u := 82) (rv := (fun T => T)) (wv := (fun _ => (jw_Model_letterOf E))) h hQ hx hb hr rfl hlocks hS hP hD dX11_letterOf_120
  replace h := jif_f hq1_13 h
  by_cases hq1_14 : x0 = 14
  · replace h := jif_t hq1_14 h
    refine lv_tableIn (off := 108) (tgt := 109) hx hb dX11_letterOf_1 (by rw [hq1_14]; decide) (by rw [hq1_14]; decide) (by rw [hq1_14]; rfl) (by decide) ?_
    refine lv_bipush (v := 80) hx hb dX11_letterOf_109 (by decide) ?_
    exact j_iret (u := 80) (rv := (fun T => T)) (wv := (fun _ => (jw_Model_letterOf E))) h hQ hx hb hr rfl hlocks hS hP hD dX11_letterOf_111
  replace h := jif_f hq1_14 h
  by_cases hq1_15 : x0 = 15
  · replace h := jif_t hq1_15 h
    refine lv_tableIn (off := 138) (tgt := 139) hx hb dX11_letterOf_1 (by rw [hq1_15]; decide) (by rw [hq1_15]; decide) (by rw [hq1_15]; rfl) (by decide) ?_
    refine lv_bipush (v := 66) hx hb dX11_letterOf_139 (by decide) ?_
    exact j_iret (u := 66) (rv := (fun T => T)) (wv := (fun _ => (jw_Model_letterOf E))) h hQ hx hb hr rfl hlocks hS hP hD dX11_letterOf_141
  replace h := jif_f hq1_15 h
  by_cases hq1_16 : x0 = 16
  · replace h := jif_t hq1_16 h
    refine lv_tableIn (off := 141) (tgt := 142) hx hb dX11_letterOf_1 (by rw [hq1_16]; decide) (by rw [hq1_16]; decide) (by rw [hq1_16]; rfl) (by decide) ?_
    refine lv_bipush (v := 76) hx hb dX11_letterOf_142 (by decide) ?_
    exact j_iret (u := 76) (rv := (fun T => T)) (wv := (fun _ => (jw_Model_letterOf E))) h hQ hx hb hr rfl hlocks hS hP hD dX11_letterOf_144
  replace h := jif_f hq1_16 h
  by_cases hq1_17 : x0 = 17
  · replace h := jif_t hq1_17 h
    refine lv_tableIn (off := 144) (tgt := 145) hx hb dX11_letterOf_1 (by rw [hq1_17]; decide) (by rw [hq1_17]; decide) (by rw [hq1_17]; rfl) (by decide) ?_
    refine lv_bipush (v := 71) hx hb dX11_letterOf_145 (by decide) ?_
    exact j_iret (u := 71) (rv := (fun T => T)) (wv := (fun _ => (jw_Model_letterOf E))) h hQ hx hb hr rfl hlocks hS hP hD dX11_letterOf_147
  replace h := jif_f hq1_17 h
  by_cases hq1_18 : x0 = 18
  · replace h := jif_t hq1_18 h
    refine lv_tableIn (off := 102) (tgt := 103) hx hb dX11_letterOf_1 (by rw [hq1_18]; decide) (by rw [hq1_18]; decide) (by rw [hq1_18]; rfl) (by decide) ?_
    refine lv_bipush (v := 84) hx hb dX11_letterOf_103 (by decide) ?_
    exact j_iret (u := 84) (rv := (fun T => T)) (wv := (fun _ => (jw_Model_letterOf E))) h hQ hx hb hr rfl hlocks hS hP hD dX11_letterOf_105
  replace h := jif_f hq1_18 h
  by_cases hq1_19 : x0 = 19
  · replace h := jif_t hq1_19 h
    refine lv_tableIn (off := 99) (tgt := 100) hx hb dX11_letterOf_1 (by rw [hq1_19]; decide) (by rw [hq1_19]; decide) (by rw [hq1_19]; rfl) (by decide) ?_
    refine lv_bipush (v := 83) hx hb dX11_letterOf_100 (by decide) ?_
    exact j_iret (u := 83) (rv := (fun T => T)) (wv := (fun _ => (jw_Model_letterOf E))) h hQ hx hb hr rfl hlocks hS hP hD dX11_letterOf_102
  replace h := jif_f hq1_19 h
  by_cases hq1_20 : x0 = 20
  · replace h := jif_t hq1_20 h
    refine lv_tableIn (off := 147) (tgt := 148) hx hb dX11_letterOf_1 (by rw [hq1_20]; decide) (by rw [hq1_20]; decide) (by rw [hq1_20]; rfl) (by decide) ?_
    refine lv_bipush (v := 68) hx hb dX11_letterOf_148 (by decide) ?_
    exact j_iret (u := 68) (rv := (fun T => T)) (wv := (fun _ => (jw_Model_letterOf E))) h hQ hx hb hr rfl hlocks hS hP hD dX11_letterOf_150
  replace h := jif_f hq1_20 h
  refine lv_tableOut (tgt := 151) hx hb dX11_letterOf_1 (j_tabout 0 20 (by decide) (fun k h1 h2 => by rcases (show k = 0 ∨ k = 1 ∨ k = 2 ∨ k = 3 ∨ k = 4 ∨ k = 5 ∨ k = 6 ∨ k = 7 ∨ k = 8 ∨ k = 9 ∨ k = 10 ∨ k = 11 ∨ k = 12 ∨ k = 13 ∨ k = 14 ∨ k = 15 ∨ k = 16 ∨ k = 17 ∨ k = 18 ∨ k = 19 ∨ k = 20 by omega) with rfl | rfl | rfl | rfl | rfl | rfl | rfl | rfl | rfl | rfl | rfl | rfl | rfl | rfl | rfl | rfl | rfl | rfl | rfl | rfl | rfl <;> first | exact hq1_0 | exact hq1_1 | exact hq1_2 | exact hq1_3 | exact hq1_4 | exact hq1_5 | exact hq1_6 | exact hq1_7 | exact hq1_8 | exact hq1_9 | exact hq1_10 | exact hq1_11 | exact hq1_12 | exact hq1_13 | exact hq1_14 | exact hq1_15 | exact hq1_16 | exact hq1_17 | exact hq1_18 | exact hq1_19 | exact hq1_20)) (by decide) ?_
  refine lv_bipush (v := 90) hx hb dX11_letterOf_151 (by decide) ?_
  exact j_iret (u := 90) (rv := (fun T => T)) (wv := (fun _ => (jw_Model_letterOf E))) h hQ hx hb hr rfl hlocks hS hP hD dX11_letterOf_153
abbrev jw_Model_writes (E : jE) (q_this q_tape q_taken q_strokeMany q_kind q_textMany q_strokes q_texts q_record q_itsEntry q_itsFirst q_text q_lengthAhead q_lengthBehind q_chord q_asked q_way q_wayStrokes q_wayMany q_best q_tried q_plan q_made q_trial q_two : Nat) (c_taped : Int32) (c_entries : Int32) (c_recorded : Int32) (c_translations : Int32) (c_length : Int32) (c_shift : Int32) (c_link : Int32) (c_chordMany : Int32) (c_lastMany : Int32) (c_bestMany : Int32) (c_bestStrokes : Int32) (c_triedMany : Int32) (c_triedStrokes : Int32) (c_planMany : Int32) (c_planStrokes : Int32) (c_madeMany : Int32) (c_madeStrokes : Int32) (c_isClear : Int32) (c_isPlanned : Int32) (a_chord : (Nat → Int32)) : va_W := [(q_this, .inr (11, [.ref q_tape, .ref q_taken, .int c_taped, .int c_entries, .ref q_strokeMany, .ref q_kind, .ref q_textMany, .ref q_strokes, .ref q_texts, .ref q_record, .int c_recorded, .ref q_itsEntry, .ref q_itsFirst, .int c_translations, .ref q_text, .ref q_lengthAhead, .ref q_lengthBehind, .int c_length, .int c_shift, .int c_link, .ref q_chord, .int c_chordMany, .int c_lastMany, .ref q_asked, .ref q_way, .ref q_wayStrokes, .ref q_wayMany, .ref q_best, .ref q_tried, .ref q_plan, .ref q_made, .int c_bestMany, .int c_bestStrokes, .int c_triedMany, .int c_triedStrokes, .int c_planMany, .int c_planStrokes, .int c_madeMany, .int c_madeStrokes, .int c_isClear, .int c_isPlanned, .ref q_trial, .ref q_two])), (q_chord, .inl (E.2.1, 24, .inl a_chord))]
def jr_Model_writes : Room := { frames := 1, cells := 0, slots := 0, locals := 20 }
set_option maxHeartbeats 4000000 in
set_option maxRecDepth 100000 in
theorem jc_Model_writes (l : Launch) (E : jE) (q_this q_tape q_taken q_strokeMany q_kind q_textMany q_strokes q_texts q_record q_itsEntry q_itsFirst q_text q_lengthAhead q_lengthBehind q_chord q_asked q_way q_wayStrokes q_wayMany q_best q_tried q_plan q_made q_trial q_two : Nat) (c_taped : Int32) (c_entries : Int32) (c_recorded : Int32) (c_translations : Int32) (c_length : Int32) (c_shift : Int32) (c_link : Int32) (c_chordMany : Int32) (c_lastMany : Int32) (c_bestMany : Int32) (c_bestStrokes : Int32) (c_triedMany : Int32) (c_triedStrokes : Int32) (c_planMany : Int32) (c_planStrokes : Int32) (c_madeMany : Int32) (c_madeStrokes : Int32) (c_isClear : Int32) (c_isPlanned : Int32) (a_chord : (Nat → Int32)) (x1 : Int32) (N : Nat) {T : Int32 × (Nat → Int32)} (h : jf_Model_writes N x1 c_chordMany a_chord = some T) : jMv l yX11_writes wsX11_writes jr_Model_writes E [.ref q_this, .int x1] (jw_Model_writes E q_this q_tape q_taken q_strokeMany q_kind q_textMany q_strokes q_texts q_record q_itsEntry q_itsFirst q_text q_lengthAhead q_lengthBehind q_chord q_asked q_way q_wayStrokes q_wayMany q_best q_tried q_plan q_made q_trial q_two c_taped c_entries c_recorded c_translations c_length c_shift c_link c_chordMany c_lastMany c_bestMany c_bestStrokes c_triedMany c_triedStrokes c_planMany c_planStrokes c_madeMany c_madeStrokes c_isClear c_isPlanned a_chord) (jw_Model_writes E q_this q_tape q_taken q_strokeMany q_kind q_textMany q_strokes q_texts q_record q_itsEntry q_itsFirst q_text q_lengthAhead q_lengthBehind q_chord q_asked q_way q_wayStrokes q_wayMany q_best q_tried q_plan q_made q_trial q_two c_taped c_entries c_recorded c_translations c_length c_shift c_link T.1 c_lastMany c_bestMany c_bestStrokes c_triedMany c_triedStrokes c_planMany c_planStrokes c_madeMany c_madeStrokes c_isClear c_isPlanned T.2) := by
  refine jMv.begin (cc := cX11_writes) (maxL := 5) (ret := none) (by decide) rfl (Nat.le_of_ble_eq_true rfl) ?_
  intro p e s m args below meth c A ls Q hQ hx hb hr hml hown hlocks hts hK hA hP hD hS hl
  replace hown : s.vm.findClass RX11 = some m.cls := hown
  replace hl : lv_has ls 5 [(0, .ref q_this), (1, .int x1)] := hl
  have hin11 : ∀ w ∈ u_ws RX11 TX11 43, w ∈ wsX11_writes := by decide +kernel
  have hk_50 := hts (.fieldLink RX11 50 "StenoRoomModel" "chord" "[B") (by decide +kernel)
  have hk_149 := hts (.fieldLink RX11 149 "StenoRoomModel" "chordMany" "I") (by decide +kernel)
  have kb115 : ∀ (k35 : Int32 → Int32 → Int32 → Int32 → (Nat → Int32) → Option (Int32 × (Nat → Int32))) (hk35 : ∀ (x2 : Int32) (x3 : Int32) (x4 : Int32) (c_chordMany : Int32) (a_chord : (Nat → Int32)) (H : Heap) (locs : List Loc) (ls : Array Slot), k35 x2 x3 x4 c_chordMany a_chord = some T → va_P E.1 vwCl (jw_Model_writes E q_this q_tape q_taken q_strokeMany q_kind q_textMany q_strokes q_texts q_record q_itsEntry q_itsFirst q_text q_lengthAhead q_lengthBehind q_chord q_asked q_way q_wayStrokes q_wayMany q_best q_tried q_plan q_made q_trial q_two c_taped c_entries c_recorded c_translations c_length c_shift c_link c_chordMany c_lastMany c_bestMany c_bestStrokes c_triedMany c_triedStrokes c_planMany c_planStrokes c_madeMany c_madeStrokes c_isClear c_isPlanned a_chord) H → va_D A (jw_Model_writes E q_this q_tape q_taken q_strokeMany q_kind q_textMany q_strokes q_texts q_record q_itsEntry q_itsFirst q_text q_lengthAhead q_lengthBehind q_chord q_asked q_way q_wayStrokes q_wayMany q_best q_tried q_plan q_made q_trial q_two c_taped c_entries c_recorded c_translations c_length c_shift c_link c_chordMany c_lastMany c_bestMany c_bestStrokes c_triedMany c_triedStrokes c_planMany c_planStrokes c_madeMany c_madeStrokes c_isClear c_isPlanned a_chord) → va_S A s.heap H locs → lv_has ls 5 [(0, .ref q_this), (1, .int x1), (2, .int x2), (3, .int x3), (4, .int x4)] → W p l e jr_Model_writes s m args below meth c H locs 0 0 Q (F0 m 35 ls [])) (x2 : Int32) (x3 : Int32) (x4 : Int32) (c_chordMany : Int32) (a_chord : (Nat → Int32)) (H : Heap) (locs : List Loc) (ls : Array Slot), jf_Model_writes_b115 k35 x2 x3 x4 c_chordMany a_chord = some T → va_P E.1 vwCl (jw_Model_writes E q_this q_tape q_taken q_strokeMany q_kind q_textMany q_strokes q_texts q_record q_itsEntry q_itsFirst q_text q_lengthAhead q_lengthBehind q_chord q_asked q_way q_wayStrokes q_wayMany q_best q_tried q_plan q_made q_trial q_two c_taped c_entries c_recorded c_translations c_length c_shift c_link c_chordMany c_lastMany c_bestMany c_bestStrokes c_triedMany c_triedStrokes c_planMany c_planStrokes c_madeMany c_madeStrokes c_isClear c_isPlanned a_chord) H → va_D A (jw_Model_writes E q_this q_tape q_taken q_strokeMany q_kind q_textMany q_strokes q_texts q_record q_itsEntry q_itsFirst q_text q_lengthAhead q_lengthBehind q_chord q_asked q_way q_wayStrokes q_wayMany q_best q_tried q_plan q_made q_trial q_two c_taped c_entries c_recorded c_translations c_length c_shift c_link c_chordMany c_lastMany c_bestMany c_bestStrokes c_triedMany c_triedStrokes c_planMany c_planStrokes c_madeMany c_madeStrokes c_isClear c_isPlanned a_chord) → va_S A s.heap H locs → lv_has ls 5 [(0, .ref q_this), (1, .int x1), (2, .int x2), (3, .int x3), (4, .int x4)] → W p l e jr_Model_writes s m args below meth c H locs 0 0 Q (F0 m 115 ls []) := by
    intro k35 hk35 x2 x3 x4 c_chordMany a_chord H locs ls h hP hD hS hl
    unfold jf_Model_writes_b115 at h
    refine lv_iinc (v := (x4 + 1)) (lv' := [(4, .int (x4 + 1)), (0, .ref q_this), (1, .int x1), (2, .int x2), (3, .int x3)]) hx hb dX11_writes_115 hl (k := 4) rfl rfl (by decide) rfl (fun ls hl => ?_)
    refine lv_goto (tgt := 35) hx hb dX11_writes_118 (by decide) ?_
    exact hk35 x2 x3 (x4 + 1) c_chordMany a_chord _ _ _ h hP hD hS (lv_sub hl [1, 2, 3, 4, 0] rfl)
  have kb78 : ∀ (k35 : Int32 → Int32 → Int32 → Int32 → (Nat → Int32) → Option (Int32 × (Nat → Int32))) (hk35 : ∀ (x2 : Int32) (x3 : Int32) (x4 : Int32) (c_chordMany : Int32) (a_chord : (Nat → Int32)) (H : Heap) (locs : List Loc) (ls : Array Slot), k35 x2 x3 x4 c_chordMany a_chord = some T → va_P E.1 vwCl (jw_Model_writes E q_this q_tape q_taken q_strokeMany q_kind q_textMany q_strokes q_texts q_record q_itsEntry q_itsFirst q_text q_lengthAhead q_lengthBehind q_chord q_asked q_way q_wayStrokes q_wayMany q_best q_tried q_plan q_made q_trial q_two c_taped c_entries c_recorded c_translations c_length c_shift c_link c_chordMany c_lastMany c_bestMany c_bestStrokes c_triedMany c_triedStrokes c_planMany c_planStrokes c_madeMany c_madeStrokes c_isClear c_isPlanned a_chord) H → va_D A (jw_Model_writes E q_this q_tape q_taken q_strokeMany q_kind q_textMany q_strokes q_texts q_record q_itsEntry q_itsFirst q_text q_lengthAhead q_lengthBehind q_chord q_asked q_way q_wayStrokes q_wayMany q_best q_tried q_plan q_made q_trial q_two c_taped c_entries c_recorded c_translations c_length c_shift c_link c_chordMany c_lastMany c_bestMany c_bestStrokes c_triedMany c_triedStrokes c_planMany c_planStrokes c_madeMany c_madeStrokes c_isClear c_isPlanned a_chord) → va_S A s.heap H locs → lv_has ls 5 [(0, .ref q_this), (1, .int x1), (2, .int x2), (3, .int x3), (4, .int x4)] → W p l e jr_Model_writes s m args below meth c H locs 0 0 Q (F0 m 35 ls [])) (x2 : Int32) (x3 : Int32) (x4 : Int32) (c_chordMany : Int32) (a_chord : (Nat → Int32)) (H : Heap) (locs : List Loc) (ls : Array Slot), jf_Model_writes_b78 x1 k35 x2 x3 x4 c_chordMany a_chord = some T → va_P E.1 vwCl (jw_Model_writes E q_this q_tape q_taken q_strokeMany q_kind q_textMany q_strokes q_texts q_record q_itsEntry q_itsFirst q_text q_lengthAhead q_lengthBehind q_chord q_asked q_way q_wayStrokes q_wayMany q_best q_tried q_plan q_made q_trial q_two c_taped c_entries c_recorded c_translations c_length c_shift c_link c_chordMany c_lastMany c_bestMany c_bestStrokes c_triedMany c_triedStrokes c_planMany c_planStrokes c_madeMany c_madeStrokes c_isClear c_isPlanned a_chord) H → va_D A (jw_Model_writes E q_this q_tape q_taken q_strokeMany q_kind q_textMany q_strokes q_texts q_record q_itsEntry q_itsFirst q_text q_lengthAhead q_lengthBehind q_chord q_asked q_way q_wayStrokes q_wayMany q_best q_tried q_plan q_made q_trial q_two c_taped c_entries c_recorded c_translations c_length c_shift c_link c_chordMany c_lastMany c_bestMany c_bestStrokes c_triedMany c_triedStrokes c_planMany c_planStrokes c_madeMany c_madeStrokes c_isClear c_isPlanned a_chord) → va_S A s.heap H locs → lv_has ls 5 [(0, .ref q_this), (1, .int x1), (2, .int x2), (3, .int x3), (4, .int x4)] → W p l e jr_Model_writes s m args below meth c H locs 0 0 Q (F0 m 78 ls []) := by
    intro k35 hk35 x2 x3 x4 c_chordMany a_chord H locs ls h hP hD hS hl
    unfold jf_Model_writes_b78 at h
    refine lv_iload_n hx hb dX11_writes_78 rfl (lv_at hl 1 rfl) ?_
    refine lv_iload hx hb dX11_writes_79 (lv_at hl 4 rfl) ?_
    refine lv_ishr hx hb dX11_writes_81 ?_
    refine lv_iconst (v := 1) hx hb dX11_writes_82 (by decide) ?_
    refine lv_iand hx hb dX11_writes_83 ?_
    refine lv_if_ne (tgt := 90) hx hb dX11_writes_84 (by decide) (fun hq84 => ?_) (fun hq84 => ?_)
    · replace h := jif_f hq84 h
      refine lv_aload_n hx hb dX11_writes_90 rfl (lv_at hl 0 rfl) ?_
      refine va_get (D := E.1) (ci := 11) (v := .ref q_chord) (C := RX11) (T := TX11) (N := 43) hx hb hts hin11 hown hK.1 hP 0 rfl rfl 20 (by decide) hk_50 (fun _ h9 => h9) rfl dX11_writes_91 ?_
      refine lv_aload_n hx hb dX11_writes_94 rfl (lv_at hl 0 rfl) ?_
      refine va_get (D := E.1) (ci := 11) (v := .int c_chordMany) (C := RX11) (T := TX11) (N := 43) hx hb hts hin11 hown hK.1 hP 0 rfl rfl 21 (by decide) hk_149 (fun _ h9 => h9) rfl dX11_writes_95 ?_
      refine lv_iload hx hb dX11_writes_98 (lv_at hl 4 rfl) ?_
      obtain ⟨r100, hf100, h⟩ := jbd h
      refine j_callSi (own := RX11) (As := [.int x4]) (rest := [.int c_chordMany, .ref q_chord]) hx hb hml hown hts hK hA hP hD hS (jc_Model_letterOf l E x4 N hf100) gX11_writes_X11_letterOf rfl ⟨rfl, rfl⟩ 1 (by decide +kernel) rfl rfl [] [0, 1] [0, 1] rfl rfl rfl rfl rfl rfl rfl hl.1 rfl rfl dX11_writes_100 (fun H locs hP hD hS => ?_)
      replace hP : va_P E.1 vwCl (jw_Model_writes E q_this q_tape q_taken q_strokeMany q_kind q_textMany q_strokes q_texts q_record q_itsEntry q_itsFirst q_text q_lengthAhead q_lengthBehind q_chord q_asked q_way q_wayStrokes q_wayMany q_best q_tried q_plan q_made q_trial q_two c_taped c_entries c_recorded c_translations c_length c_shift c_link c_chordMany c_lastMany c_bestMany c_bestStrokes c_triedMany c_triedStrokes c_planMany c_planStrokes c_madeMany c_madeStrokes c_isClear c_isPlanned a_chord) H := hP
      replace hD : va_D A (jw_Model_writes E q_this q_tape q_taken q_strokeMany q_kind q_textMany q_strokes q_texts q_record q_itsEntry q_itsFirst q_text q_lengthAhead q_lengthBehind q_chord q_asked q_way q_wayStrokes q_wayMany q_best q_tried q_plan q_made q_trial q_two c_taped c_entries c_recorded c_translations c_length c_shift c_link c_chordMany c_lastMany c_bestMany c_bestStrokes c_triedMany c_triedStrokes c_planMany c_planStrokes c_madeMany c_madeStrokes c_isClear c_isPlanned a_chord) := hD
      refine lv_i2b (v := r100.toInt8.toInt32) hx hb dX11_writes_103 rfl ?_
      obtain ⟨g104, h⟩ := jga_e h
      refine va_bast hx hb hK.1 hP hD hS 1 0 rfl rfl g104 dX11_writes_104 (fun H locs hP hD hS => ?_)
      replace hP : va_P E.1 vwCl (jw_Model_writes E q_this q_tape q_taken q_strokeMany q_kind q_textMany q_strokes q_texts q_record q_itsEntry q_itsFirst q_text q_lengthAhead q_lengthBehind q_chord q_asked q_way q_wayStrokes q_wayMany q_best q_tried q_plan q_made q_trial q_two c_taped c_entries c_recorded c_translations c_length c_shift c_link c_chordMany c_lastMany c_bestMany c_bestStrokes c_triedMany c_triedStrokes c_planMany c_planStrokes c_madeMany c_madeStrokes c_isClear c_isPlanned (upd a_chord c_chordMany.toNatClampNeg (vp_nar .byte r100.toInt8.toInt32))) H := hP
      replace hD : va_D A (jw_Model_writes E q_this q_tape q_taken q_strokeMany q_kind q_textMany q_strokes q_texts q_record q_itsEntry q_itsFirst q_text q_lengthAhead q_lengthBehind q_chord q_asked q_way q_wayStrokes q_wayMany q_best q_tried q_plan q_made q_trial q_two c_taped c_entries c_recorded c_translations c_length c_shift c_link c_chordMany c_lastMany c_bestMany c_bestStrokes c_triedMany c_triedStrokes c_planMany c_planStrokes c_madeMany c_madeStrokes c_isClear c_isPlanned (upd a_chord c_chordMany.toNatClampNeg (vp_nar .byte r100.toInt8.toInt32))) := hD
      refine lv_aload_n hx hb dX11_writes_105 rfl (lv_at hl 0 rfl) ?_
      refine lv_aload_n hx hb dX11_writes_106 rfl (lv_at hl 0 rfl) ?_
      refine va_get (D := E.1) (ci := 11) (v := .int c_chordMany) (C := RX11) (T := TX11) (N := 43) hx hb hts hin11 hown hK.1 hP 0 rfl rfl 21 (by decide) hk_149 (fun _ h9 => h9) rfl dX11_writes_107 ?_
      refine lv_iconst (v := 1) hx hb dX11_writes_110 (by decide) ?_
      refine lv_iadd hx hb dX11_writes_111 ?_
      refine va_put (D := E.1) (ci := 11) (v := .int (c_chordMany + 1)) (ty := .int) (C := RX11) (T := TX11) (N := 43) hx hb hts hin11 tyX11 tyX11_ok nmX11 hown hK.1 hP hD hS 0 rfl rfl 21 (by decide) hk_149 (fun _ h9 => h9) rfl (by decide +kernel) rfl rfl (Nat.le_of_ble_eq_true rfl) dX11_writes_112 (fun H locs hP hD hS => ?_)
      replace hP : va_P E.1 vwCl (jw_Model_writes E q_this q_tape q_taken q_strokeMany q_kind q_textMany q_strokes q_texts q_record q_itsEntry q_itsFirst q_text q_lengthAhead q_lengthBehind q_chord q_asked q_way q_wayStrokes q_wayMany q_best q_tried q_plan q_made q_trial q_two c_taped c_entries c_recorded c_translations c_length c_shift c_link (c_chordMany + 1) c_lastMany c_bestMany c_bestStrokes c_triedMany c_triedStrokes c_planMany c_planStrokes c_madeMany c_madeStrokes c_isClear c_isPlanned (upd a_chord c_chordMany.toNatClampNeg (vp_nar .byte r100.toInt8.toInt32))) H := hP
      replace hD : va_D A (jw_Model_writes E q_this q_tape q_taken q_strokeMany q_kind q_textMany q_strokes q_texts q_record q_itsEntry q_itsFirst q_text q_lengthAhead q_lengthBehind q_chord q_asked q_way q_wayStrokes q_wayMany q_best q_tried q_plan q_made q_trial q_two c_taped c_entries c_recorded c_translations c_length c_shift c_link (c_chordMany + 1) c_lastMany c_bestMany c_bestStrokes c_triedMany c_triedStrokes c_planMany c_planStrokes c_madeMany c_madeStrokes c_isClear c_isPlanned (upd a_chord c_chordMany.toNatClampNeg (vp_nar .byte r100.toInt8.toInt32))) := hD
      exact kb115 k35 hk35  x2 x3 x4 (c_chordMany + 1) (upd a_chord c_chordMany.toNatClampNeg (vp_nar .byte r100.toInt8.toInt32)) _ _ _ h hP hD hS (lv_sub hl [0, 1, 2, 3, 4] rfl)
    · replace h := jif_t hq84 h
      refine lv_goto (tgt := 115) hx hb dX11_writes_87 (by decide) ?_
      exact kb115 k35 hk35  x2 x3 x4 c_chordMany a_chord _ _ _ h hP hD hS (lv_sub hl [0, 1, 2, 3, 4] rfl)
  have kb35 : ∀ (n : Nat) (x2 : Int32) (x3 : Int32) (x4 : Int32) (c_chordMany : Int32) (a_chord : (Nat → Int32)) (H : Heap) (locs : List Loc) (ls : Array Slot), jf_Model_writes_b35 x1 n x2 x3 x4 c_chordMany a_chord = some T → va_P E.1 vwCl (jw_Model_writes E q_this q_tape q_taken q_strokeMany q_kind q_textMany q_strokes q_texts q_record q_itsEntry q_itsFirst q_text q_lengthAhead q_lengthBehind q_chord q_asked q_way q_wayStrokes q_wayMany q_best q_tried q_plan q_made q_trial q_two c_taped c_entries c_recorded c_translations c_length c_shift c_link c_chordMany c_lastMany c_bestMany c_bestStrokes c_triedMany c_triedStrokes c_planMany c_planStrokes c_madeMany c_madeStrokes c_isClear c_isPlanned a_chord) H → va_D A (jw_Model_writes E q_this q_tape q_taken q_strokeMany q_kind q_textMany q_strokes q_texts q_record q_itsEntry q_itsFirst q_text q_lengthAhead q_lengthBehind q_chord q_asked q_way q_wayStrokes q_wayMany q_best q_tried q_plan q_made q_trial q_two c_taped c_entries c_recorded c_translations c_length c_shift c_link c_chordMany c_lastMany c_bestMany c_bestStrokes c_triedMany c_triedStrokes c_planMany c_planStrokes c_madeMany c_madeStrokes c_isClear c_isPlanned a_chord) → va_S A s.heap H locs → lv_has ls 5 [(0, .ref q_this), (1, .int x1), (2, .int x2), (3, .int x3), (4, .int x4)] → W p l e jr_Model_writes s m args below meth c H locs 0 0 Q (F0 m 35 ls []) := by
    intro n
    induction n with
    | zero => intro x2 x3 x4 c_chordMany a_chord H locs ls h; exact j_none (α := Int32 × (Nat → Int32)) h
    | succ n ih =>
      intro x2 x3 x4 c_chordMany a_chord H locs ls h hP hD hS hl
      rw [jf_Model_writes_b35] at h
      refine lv_iload hx hb dX11_writes_35 (lv_at hl 4 rfl) ?_
      refine lv_bipush (v := 22) hx hb dX11_writes_37 (by decide) ?_
      refine lv_icmp_ge (tgt := 121) hx hb dX11_writes_39 (by decide) (fun hq39 => ?_) (fun hq39 => ?_)
      · replace h := jif_t hq39 h
        exact j_vret (u := (c_chordMany, a_chord)) (wv := (fun T => (jw_Model_writes E q_this q_tape q_taken q_strokeMany q_kind q_textMany q_strokes q_texts q_record q_itsEntry q_itsFirst q_text q_lengthAhead q_lengthBehind q_chord q_asked q_way q_wayStrokes q_wayMany q_best q_tried q_plan q_made q_trial q_two c_taped c_entries c_recorded c_translations c_length c_shift c_link T.1 c_lastMany c_bestMany c_bestStrokes c_triedMany c_triedStrokes c_planMany c_planStrokes c_madeMany c_madeStrokes c_isClear c_isPlanned T.2))) h hQ hx hb hr hlocks hS hP hD dX11_writes_121
      · replace h := jif_f hq39 h
        refine lv_iload hx hb dX11_writes_42 (lv_at hl 4 rfl) ?_
        refine lv_bipush (v := 12) hx hb dX11_writes_44 (by decide) ?_
        refine lv_icmp_ne (tgt := 78) hx hb dX11_writes_46 (by decide) (fun hq46 => ?_) (fun hq46 => ?_)
        · replace h := jif_f hq46 h
          exact kb78 (jf_Model_writes_b35 x1 n) ih  x2 x3 x4 c_chordMany a_chord _ _ _ h hP hD hS (lv_sub hl [0, 1, 2, 3, 4] rfl)
        · replace h := jif_t hq46 h
          refine lv_iload_n hx hb dX11_writes_49 rfl (lv_at hl 3 rfl) ?_
          refine lv_if_eq (tgt := 78) hx hb dX11_writes_50 (by decide) (fun hq50 => ?_) (fun hq50 => ?_)
          · replace h := jif_t hq50 h
            exact kb78 (jf_Model_writes_b35 x1 n) ih  x2 x3 x4 c_chordMany a_chord _ _ _ h hP hD hS (lv_sub hl [0, 1, 2, 3, 4] rfl)
          · replace h := jif_f hq50 h
            refine lv_iload_n hx hb dX11_writes_53 rfl (lv_at hl 2 rfl) ?_
            refine lv_if_ne (tgt := 78) hx hb dX11_writes_54 (by decide) (fun hq54 => ?_) (fun hq54 => ?_)
            · replace h := jif_f hq54 h
              exact kb78 (jf_Model_writes_b35 x1 n) ih  x2 x3 x4 c_chordMany a_chord _ _ _ h hP hD hS (lv_sub hl [0, 1, 2, 3, 4] rfl)
            · replace h := jif_t hq54 h
              refine lv_aload_n hx hb dX11_writes_57 rfl (lv_at hl 0 rfl) ?_
              refine va_get (D := E.1) (ci := 11) (v := .ref q_chord) (C := RX11) (T := TX11) (N := 43) hx hb hts hin11 hown hK.1 hP 0 rfl rfl 20 (by decide) hk_50 (fun _ h9 => h9) rfl dX11_writes_58 ?_
              refine lv_aload_n hx hb dX11_writes_61 rfl (lv_at hl 0 rfl) ?_
              refine va_get (D := E.1) (ci := 11) (v := .int c_chordMany) (C := RX11) (T := TX11) (N := 43) hx hb hts hin11 hown hK.1 hP 0 rfl rfl 21 (by decide) hk_149 (fun _ h9 => h9) rfl dX11_writes_62 ?_
              refine lv_bipush (v := 45) hx hb dX11_writes_65 (by decide) ?_
              obtain ⟨g67, h⟩ := jga_e h
              refine va_bast hx hb hK.1 hP hD hS 1 0 rfl rfl g67 dX11_writes_67 (fun H locs hP hD hS => ?_)
              replace hP : va_P E.1 vwCl (jw_Model_writes E q_this q_tape q_taken q_strokeMany q_kind q_textMany q_strokes q_texts q_record q_itsEntry q_itsFirst q_text q_lengthAhead q_lengthBehind q_chord q_asked q_way q_wayStrokes q_wayMany q_best q_tried q_plan q_made q_trial q_two c_taped c_entries c_recorded c_translations c_length c_shift c_link c_chordMany c_lastMany c_bestMany c_bestStrokes c_triedMany c_triedStrokes c_planMany c_planStrokes c_madeMany c_madeStrokes c_isClear c_isPlanned (upd a_chord c_chordMany.toNatClampNeg (vp_nar .byte 45))) H := hP
              replace hD : va_D A (jw_Model_writes E q_this q_tape q_taken q_strokeMany q_kind q_textMany q_strokes q_texts q_record q_itsEntry q_itsFirst q_text q_lengthAhead q_lengthBehind q_chord q_asked q_way q_wayStrokes q_wayMany q_best q_tried q_plan q_made q_trial q_two c_taped c_entries c_recorded c_translations c_length c_shift c_link c_chordMany c_lastMany c_bestMany c_bestStrokes c_triedMany c_triedStrokes c_planMany c_planStrokes c_madeMany c_madeStrokes c_isClear c_isPlanned (upd a_chord c_chordMany.toNatClampNeg (vp_nar .byte 45))) := hD
              refine lv_aload_n hx hb dX11_writes_68 rfl (lv_at hl 0 rfl) ?_
              refine lv_aload_n hx hb dX11_writes_69 rfl (lv_at hl 0 rfl) ?_
              refine va_get (D := E.1) (ci := 11) (v := .int c_chordMany) (C := RX11) (T := TX11) (N := 43) hx hb hts hin11 hown hK.1 hP 0 rfl rfl 21 (by decide) hk_149 (fun _ h9 => h9) rfl dX11_writes_70 ?_
              refine lv_iconst (v := 1) hx hb dX11_writes_73 (by decide) ?_
              refine lv_iadd hx hb dX11_writes_74 ?_
              refine va_put (D := E.1) (ci := 11) (v := .int (c_chordMany + 1)) (ty := .int) (C := RX11) (T := TX11) (N := 43) hx hb hts hin11 tyX11 tyX11_ok nmX11 hown hK.1 hP hD hS 0 rfl rfl 21 (by decide) hk_149 (fun _ h9 => h9) rfl (by decide +kernel) rfl rfl (Nat.le_of_ble_eq_true rfl) dX11_writes_75 (fun H locs hP hD hS => ?_)
              replace hP : va_P E.1 vwCl (jw_Model_writes E q_this q_tape q_taken q_strokeMany q_kind q_textMany q_strokes q_texts q_record q_itsEntry q_itsFirst q_text q_lengthAhead q_lengthBehind q_chord q_asked q_way q_wayStrokes q_wayMany q_best q_tried q_plan q_made q_trial q_two c_taped c_entries c_recorded c_translations c_length c_shift c_link (c_chordMany + 1) c_lastMany c_bestMany c_bestStrokes c_triedMany c_triedStrokes c_planMany c_planStrokes c_madeMany c_madeStrokes c_isClear c_isPlanned (upd a_chord c_chordMany.toNatClampNeg (vp_nar .byte 45))) H := hP
              replace hD : va_D A (jw_Model_writes E q_this q_tape q_taken q_strokeMany q_kind q_textMany q_strokes q_texts q_record q_itsEntry q_itsFirst q_text q_lengthAhead q_lengthBehind q_chord q_asked q_way q_wayStrokes q_wayMany q_best q_tried q_plan q_made q_trial q_two c_taped c_entries c_recorded c_translations c_length c_shift c_link (c_chordMany + 1) c_lastMany c_bestMany c_bestStrokes c_triedMany c_triedStrokes c_planMany c_planStrokes c_madeMany c_madeStrokes c_isClear c_isPlanned (upd a_chord c_chordMany.toNatClampNeg (vp_nar .byte 45))) := hD
              exact kb78 (jf_Model_writes_b35 x1 n) ih  x2 x3 x4 (c_chordMany + 1) (upd a_chord c_chordMany.toNatClampNeg (vp_nar .byte 45)) _ _ _ h hP hD hS (lv_sub hl [0, 1, 2, 3, 4] rfl)
  have kb31 : ∀ (x2 : Int32) (z0 : Int32) (c_chordMany : Int32) (a_chord : (Nat → Int32)) (H : Heap) (locs : List Loc) (ls : Array Slot), jf_Model_writes_b31 N x1 x2 z0 c_chordMany a_chord = some T → va_P E.1 vwCl (jw_Model_writes E q_this q_tape q_taken q_strokeMany q_kind q_textMany q_strokes q_texts q_record q_itsEntry q_itsFirst q_text q_lengthAhead q_lengthBehind q_chord q_asked q_way q_wayStrokes q_wayMany q_best q_tried q_plan q_made q_trial q_two c_taped c_entries c_recorded c_translations c_length c_shift c_link c_chordMany c_lastMany c_bestMany c_bestStrokes c_triedMany c_triedStrokes c_planMany c_planStrokes c_madeMany c_madeStrokes c_isClear c_isPlanned a_chord) H → va_D A (jw_Model_writes E q_this q_tape q_taken q_strokeMany q_kind q_textMany q_strokes q_texts q_record q_itsEntry q_itsFirst q_text q_lengthAhead q_lengthBehind q_chord q_asked q_way q_wayStrokes q_wayMany q_best q_tried q_plan q_made q_trial q_two c_taped c_entries c_recorded c_translations c_length c_shift c_link c_chordMany c_lastMany c_bestMany c_bestStrokes c_triedMany c_triedStrokes c_planMany c_planStrokes c_madeMany c_madeStrokes c_isClear c_isPlanned a_chord) → va_S A s.heap H locs → lv_has ls 5 [(0, .ref q_this), (1, .int x1), (2, .int x2)] → W p l e jr_Model_writes s m args below meth c H locs 0 0 Q (F0 m 31 ls [.int z0]) := by
    intro  x2 z0 c_chordMany a_chord H locs ls h hP hD hS hl
    unfold jf_Model_writes_b31 at h
    refine lv_istore_n (lv' := [(3, .int z0), (0, .ref q_this), (1, .int x1), (2, .int x2)]) hx hb dX11_writes_31 rfl hl (by decide) rfl (fun ls hl => ?_)
    refine lv_iconst (v := 0) hx hb dX11_writes_32 (by decide) ?_
    refine lv_istore (lv' := [(4, .int 0), (3, .int z0), (0, .ref q_this), (1, .int x1), (2, .int x2)]) hx hb dX11_writes_33 hl (by decide) rfl (fun ls hl => ?_)
    exact kb35  N x2 z0 0 c_chordMany a_chord _ _ _ h hP hD hS (lv_sub hl [2, 3, 4, 1, 0] rfl)
  have kb18 : ∀ (z0 : Int32) (c_chordMany : Int32) (a_chord : (Nat → Int32)) (H : Heap) (locs : List Loc) (ls : Array Slot), jf_Model_writes_b18 N x1 z0 c_chordMany a_chord = some T → va_P E.1 vwCl (jw_Model_writes E q_this q_tape q_taken q_strokeMany q_kind q_textMany q_strokes q_texts q_record q_itsEntry q_itsFirst q_text q_lengthAhead q_lengthBehind q_chord q_asked q_way q_wayStrokes q_wayMany q_best q_tried q_plan q_made q_trial q_two c_taped c_entries c_recorded c_translations c_length c_shift c_link c_chordMany c_lastMany c_bestMany c_bestStrokes c_triedMany c_triedStrokes c_planMany c_planStrokes c_madeMany c_madeStrokes c_isClear c_isPlanned a_chord) H → va_D A (jw_Model_writes E q_this q_tape q_taken q_strokeMany q_kind q_textMany q_strokes q_texts q_record q_itsEntry q_itsFirst q_text q_lengthAhead q_lengthBehind q_chord q_asked q_way q_wayStrokes q_wayMany q_best q_tried q_plan q_made q_trial q_two c_taped c_entries c_recorded c_translations c_length c_shift c_link c_chordMany c_lastMany c_bestMany c_bestStrokes c_triedMany c_triedStrokes c_planMany c_planStrokes c_madeMany c_madeStrokes c_isClear c_isPlanned a_chord) → va_S A s.heap H locs → lv_has ls 5 [(0, .ref q_this), (1, .int x1)] → W p l e jr_Model_writes s m args below meth c H locs 0 0 Q (F0 m 18 ls [.int z0]) := by
    intro  z0 c_chordMany a_chord H locs ls h hP hD hS hl
    unfold jf_Model_writes_b18 at h
    refine lv_istore_n (lv' := [(2, .int z0), (0, .ref q_this), (1, .int x1)]) hx hb dX11_writes_18 rfl hl (by decide) rfl (fun ls hl => ?_)
    refine lv_iload_n hx hb dX11_writes_19 rfl (lv_at hl 2 rfl) ?_
    refine lv_bipush (v := 12) hx hb dX11_writes_20 (by decide) ?_
    refine lv_ishr hx hb dX11_writes_22 ?_
    refine lv_if_eq (tgt := 30) hx hb dX11_writes_23 (by decide) (fun hq23 => ?_) (fun hq23 => ?_)
    · replace h := jif_t hq23 h
      refine lv_iconst (v := 0) hx hb dX11_writes_30 (by decide) ?_
      exact kb31   z0 0 c_chordMany a_chord _ _ _ h hP hD hS (lv_sub hl [1, 2, 0] rfl)
    · replace h := jif_f hq23 h
      refine lv_iconst (v := 1) hx hb dX11_writes_26 (by decide) ?_
      refine lv_goto (tgt := 31) hx hb dX11_writes_27 (by decide) ?_
      exact kb31   z0 1 c_chordMany a_chord _ _ _ h hP hD hS (lv_sub hl [1, 2, 0] rfl)
  unfold jf_Model_writes at h
  refine lv_aload_n hx hb dX11_writes_0 rfl (lv_at hl 0 rfl) ?_
  refine lv_iconst (v := 0) hx hb dX11_writes_1 (by decide) ?_
  refine va_put (D := E.1) (ci := 11) (v := .int 0) (ty := .int) (C := RX11) (T := TX11) (N := 43) hx hb hts hin11 tyX11 tyX11_ok nmX11 hown hK.1 hP hD hS 0 rfl rfl 21 (by decide) hk_149 (fun _ h9 => h9) rfl (by decide +kernel) rfl rfl (Nat.le_of_ble_eq_true rfl) dX11_writes_2 (fun H locs hP hD hS => ?_)
  replace hP : va_P E.1 vwCl (jw_Model_writes E q_this q_tape q_taken q_strokeMany q_kind q_textMany q_strokes q_texts q_record q_itsEntry q_itsFirst q_text q_lengthAhead q_lengthBehind q_chord q_asked q_way q_wayStrokes q_wayMany q_best q_tried q_plan q_made q_trial q_two c_taped c_entries c_recorded c_translations c_length c_shift c_link 0 c_lastMany c_bestMany c_bestStrokes c_triedMany c_triedStrokes c_planMany c_planStrokes c_madeMany c_madeStrokes c_isClear c_isPlanned a_chord) H := hP
  replace hD : va_D A (jw_Model_writes E q_this q_tape q_taken q_strokeMany q_kind q_textMany q_strokes q_texts q_record q_itsEntry q_itsFirst q_text q_lengthAhead q_lengthBehind q_chord q_asked q_way q_wayStrokes q_wayMany q_best q_tried q_plan q_made q_trial q_two c_taped c_entries c_recorded c_translations c_length c_shift c_link 0 c_lastMany c_bestMany c_bestStrokes c_triedMany c_triedStrokes c_planMany c_planStrokes c_madeMany c_madeStrokes c_isClear c_isPlanned a_chord) := hD
  refine lv_iload_n hx hb dX11_writes_5 rfl (lv_at hl 1 rfl) ?_
  refine lv_sipush (v := 3968) hx hb dX11_writes_6 (by decide) ?_
  refine lv_iand hx hb dX11_writes_9 ?_
  refine lv_if_eq (tgt := 17) hx hb dX11_writes_10 (by decide) (fun hq10 => ?_) (fun hq10 => ?_)
  · replace h := jif_t hq10 h
    refine lv_iconst (v := 0) hx hb dX11_writes_17 (by decide) ?_
    exact kb18   0 0 a_chord _ _ _ h hP hD hS (lv_sub hl [0, 1] rfl)
  · replace h := jif_f hq10 h
    refine lv_iconst (v := 1) hx hb dX11_writes_13 (by decide) ?_
    refine lv_goto (tgt := 18) hx hb dX11_writes_14 (by decide) ?_
    exact kb18   1 0 a_chord _ _ _ h hP hD hS (lv_sub hl [0, 1] rfl)
abbrev jw_Model_isLetter (E : jE) : va_W := []
def jr_Model_isLetter : Room := { frames := 1, cells := 0, slots := 0, locals := 20 }
set_option maxHeartbeats 4000000 in
set_option maxRecDepth 100000 in
theorem jc_Model_isLetter (l : Launch) (E : jE) (x0 : Int32) (N : Nat) {T : Int32} (h : jf_Model_isLetter x0 = some T) : jMi l yX11_isLetter wsX11_isLetter jr_Model_isLetter E [.int x0] (jw_Model_isLetter E) (T) (jw_Model_isLetter E) := by
  refine jMi.begin (cc := cX11_isLetter) (maxL := 1) (ret := (some .boolean)) (by decide) rfl (Nat.le_of_ble_eq_true rfl) ?_
  intro p e s m args below meth c A ls Q hQ hx hb hr hml hown hlocks hts hK hA hP hD hS hl
  replace hown : s.vm.findClass RX11 = some m.cls := hown
  replace hl : lv_has ls 1 [(0, .int x0)] := hl
  unfold jf_Model_isLetter at h
  refine lv_iload_n hx hb dX11_isLetter_0 rfl (lv_at hl 0 rfl) ?_
  obtain ⟨r1, hf1, h⟩ := jbd h
  refine j_callSi (own := RX11) (As := [.int x0]) (rest := []) hx hb hml hown hts hK hA hP hD hS (jc_Model_isSmall l E x0 N hf1) gX11_isLetter_X11_isSmall rfl ⟨rfl, rfl⟩ 1 (by decide +kernel) rfl rfl [] [] [] rfl rfl rfl rfl rfl rfl rfl hl.1 rfl rfl dX11_isLetter_1 (fun H locs hP hD hS => ?_)
  replace hP : va_P E.1 vwCl (jw_Model_isLetter E) H := hP
  replace hD : va_D A (jw_Model_isLetter E) := hD
  refine lv_if_ne (tgt := 19) hx hb dX11_isLetter_4 (by decide) (fun hq4 => ?_) (fun hq4 => ?_)
  · replace h := jif_f hq4 h
    refine lv_iconst (v := 1) hx hb dX11_isLetter_19 (by decide) ?_
    refine lv_goto (tgt := 24) hx hb dX11_isLetter_20 (by decide) ?_
    exact j_iret (u := 1) (rv := (fun T => T)) (wv := (fun _ => (jw_Model_isLetter E))) h hQ hx hb hr jb_1 hlocks hS hP hD dX11_isLetter_24
  · replace h := jif_t hq4 h
    refine lv_iload_n hx hb dX11_isLetter_7 rfl (lv_at hl 0 rfl) ?_
    refine lv_bipush (v := 65) hx hb dX11_isLetter_8 (by decide) ?_
    refine lv_icmp_lt (tgt := 23) hx hb dX11_isLetter_10 (by decide) (fun hq10 => ?_) (fun hq10 => ?_)
    · replace h := jif_t hq10 h
      refine lv_iconst (v := 0) hx hb dX11_isLetter_23 (by decide) ?_
      exact j_iret (u := 0) (rv := (fun T => T)) (wv := (fun _ => (jw_Model_isLetter E))) h hQ hx hb hr jb_0 hlocks hS hP hD dX11_isLetter_24
    · replace h := jif_f hq10 h
      refine lv_iload_n hx hb dX11_isLetter_13 rfl (lv_at hl 0 rfl) ?_
      refine lv_bipush (v := 90) hx hb dX11_isLetter_14 (by decide) ?_
      refine lv_icmp_gt (tgt := 23) hx hb dX11_isLetter_16 (by decide) (fun hq16 => ?_) (fun hq16 => ?_)
      · replace h := jif_t hq16 h
        refine lv_iconst (v := 0) hx hb dX11_isLetter_23 (by decide) ?_
        exact j_iret (u := 0) (rv := (fun T => T)) (wv := (fun _ => (jw_Model_isLetter E))) h hQ hx hb hr jb_0 hlocks hS hP hD dX11_isLetter_24
      · replace h := jif_f hq16 h
        refine lv_iconst (v := 1) hx hb dX11_isLetter_19 (by decide) ?_
        refine lv_goto (tgt := 24) hx hb dX11_isLetter_20 (by decide) ?_
        exact j_iret (u := 1) (rv := (fun T => T)) (wv := (fun _ => (jw_Model_isLetter E))) h hQ hx hb hr jb_1 hlocks hS hP hD dX11_isLetter_24
