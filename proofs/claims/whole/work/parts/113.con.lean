abbrev jw_Model_small (E : jE) : va_W := []
def jr_Model_small : Room := { frames := 0, cells := 0, slots := 0, locals := 0 }
set_option maxHeartbeats 4000000 in
set_option maxRecDepth 100000 in
theorem jc_Model_small (l : Launch) (E : jE) (x0 : Int32) (N : Nat) {T : Int32} (h : jf_Model_small x0 = some T) : jMi l yX11_small wsX11_small jr_Model_small E [.int x0] (jw_Model_small E) (T) (jw_Model_small E) := by
  refine jMi.begin (cc := cX11_small) (maxL := 1) (ret := (some .int)) (by decide) rfl (Nat.le_of_ble_eq_true rfl) ?_
  intro p e s m args below meth c A ls Q hQ hx hb hr hml hown hlocks hts hK hA hP hD hS hl
  replace hown : s.vm.findClass RX11 = some m.cls := hown
  replace hl : lv_has ls 1 [(0, .int x0)] := hl
  unfold jf_Model_small at h
  refine lv_iload_n hx hb dX11_small_0 rfl (lv_at hl 0 rfl) ?_
  refine lv_bipush (v := 65) hx hb dX11_small_1 (by decide) ?_
  refine lv_icmp_lt (tgt := 19) hx hb dX11_small_3 (by decide) (fun hq3 => ?_) (fun hq3 => ?_)
  · replace h := jif_t hq3 h
    refine lv_iload_n hx hb dX11_small_19 rfl (lv_at hl 0 rfl) ?_
    exact j_iret (u := x0) (rv := (fun T => T)) (wv := (fun _ => (jw_Model_small E))) h hQ hx hb hr rfl hlocks hS hP hD dX11_small_20
  · replace h := jif_f hq3 h
    refine lv_iload_n hx hb dX11_small_6 rfl (lv_at hl 0 rfl) ?_
    refine lv_bipush (v := 90) hx hb dX11_small_7 (by decide) ?_
    refine lv_icmp_gt (tgt := 19) hx hb dX11_small_9 (by decide) (fun hq9 => ?_) (fun hq9 => ?_)
    · replace h := jif_t hq9 h
      refine lv_iload_n hx hb dX11_small_19 rfl (lv_at hl 0 rfl) ?_
      exact j_iret (u := x0) (rv := (fun T => T)) (wv := (fun _ => (jw_Model_small E))) h hQ hx hb hr rfl hlocks hS hP hD dX11_small_20
    · replace h := jif_f hq9 h
      refine lv_iload_n hx hb dX11_small_12 rfl (lv_at hl 0 rfl) ?_
      refine lv_bipush (v := 32) hx hb dX11_small_13 (by decide) ?_
      refine lv_iadd hx hb dX11_small_15 ?_
      refine lv_goto (tgt := 20) hx hb dX11_small_16 (by decide) ?_
      exact j_iret (u := (x0 + 32)) (rv := (fun T => T)) (wv := (fun _ => (jw_Model_small E))) h hQ hx hb hr rfl hlocks hS hP hD dX11_small_20
abbrev jw_Model_isVowel (E : jE) : va_W := []
def jr_Model_isVowel : Room := { frames := 0, cells := 0, slots := 0, locals := 0 }
set_option maxHeartbeats 4000000 in
set_option maxRecDepth 100000 in
theorem jc_Model_isVowel (l : Launch) (E : jE) (x0 : Int32) (N : Nat) {T : Int32} (h : jf_Model_isVowel x0 = some T) : jMi l yX11_isVowel wsX11_isVowel jr_Model_isVowel E [.int x0] (jw_Model_isVowel E) (T) (jw_Model_isVowel E) := by
  refine jMi.begin (cc := cX11_isVowel) (maxL := 1) (ret := (some .boolean)) (by decide) rfl (Nat.le_of_ble_eq_true rfl) ?_
  intro p e s m args below meth c A ls Q hQ hx hb hr hml hown hlocks hts hK hA hP hD hS hl
  replace hown : s.vm.findClass RX11 = some m.cls := hown
  replace hl : lv_has ls 1 [(0, .int x0)] := hl
  unfold jf_Model_isVowel at h
  refine lv_iload_n hx hb dX11_isVowel_0 rfl (lv_at hl 0 rfl) ?_
  refine lv_bipush (v := 97) hx hb dX11_isVowel_1 (by decide) ?_
  refine lv_icmp_eq (tgt := 30) hx hb dX11_isVowel_3 (by decide) (fun hq3 => ?_) (fun hq3 => ?_)
  · replace h := jif_t hq3 h
    refine lv_iconst (v := 1) hx hb dX11_isVowel_30 (by decide) ?_
    refine lv_goto (tgt := 35) hx hb dX11_isVowel_31 (by decide) ?_
    exact j_iret (u := 1) (rv := (fun T => T)) (wv := (fun _ => (jw_Model_isVowel E))) h hQ hx hb hr jb_1 hlocks hS hP hD dX11_isVowel_35
  · replace h := jif_f hq3 h
    refine lv_iload_n hx hb dX11_isVowel_6 rfl (lv_at hl 0 rfl) ?_
    refine lv_bipush (v := 101) hx hb dX11_isVowel_7 (by decide) ?_
    refine lv_icmp_eq (tgt := 30) hx hb dX11_isVowel_9 (by decide) (fun hq9 => ?_) (fun hq9 => ?_)
    · replace h := jif_t hq9 h
      refine lv_iconst (v := 1) hx hb dX11_isVowel_30 (by decide) ?_
      refine lv_goto (tgt := 35) hx hb dX11_isVowel_31 (by decide) ?_
      exact j_iret (u := 1) (rv := (fun T => T)) (wv := (fun _ => (jw_Model_isVowel E))) h hQ hx hb hr jb_1 hlocks hS hP hD dX11_isVowel_35
    · replace h := jif_f hq9 h
      refine lv_iload_n hx hb dX11_isVowel_12 rfl (lv_at hl 0 rfl) ?_
      refine lv_bipush (v := 105) hx hb dX11_isVowel_13 (by decide) ?_
      refine lv_icmp_eq (tgt := 30) hx hb dX11_isVowel_15 (by decide) (fun hq15 => ?_) (fun hq15 => ?_)
      · replace h := jif_t hq15 h
        refine lv_iconst (v := 1) hx hb dX11_isVowel_30 (by decide) ?_
        refine lv_goto (tgt := 35) hx hb dX11_isVowel_31 (by decide) ?_
        exact j_iret (u := 1) (rv := (fun T => T)) (wv := (fun _ => (jw_Model_isVowel E))) h hQ hx hb hr jb_1 hlocks hS hP hD dX11_isVowel_35
      · replace h := jif_f hq15 h
        refine lv_iload_n hx hb dX11_isVowel_18 rfl (lv_at hl 0 rfl) ?_
        refine lv_bipush (v := 111) hx hb dX11_isVowel_19 (by decide) ?_
        refine lv_icmp_eq (tgt := 30) hx hb dX11_isVowel_21 (by decide) (fun hq21 => ?_) (fun hq21 => ?_)
        · replace h := jif_t hq21 h
          refine lv_iconst (v := 1) hx hb dX11_isVowel_30 (by decide) ?_
          refine lv_goto (tgt := 35) hx hb dX11_isVowel_31 (by decide) ?_
          exact j_iret (u := 1) (rv := (fun T => T)) (wv := (fun _ => (jw_Model_isVowel E))) h hQ hx hb hr jb_1 hlocks hS hP hD dX11_isVowel_35
        · replace h := jif_f hq21 h
          refine lv_iload_n hx hb dX11_isVowel_24 rfl (lv_at hl 0 rfl) ?_
          refine lv_bipush (v := 117) hx hb dX11_isVowel_25 (by decide) ?_
          refine lv_icmp_ne (tgt := 34) hx hb dX11_isVowel_27 (by decide) (fun hq27 => ?_) (fun hq27 => ?_)
          · replace h := jif_f hq27 h
            refine lv_iconst (v := 0) hx hb dX11_isVowel_34 (by decide) ?_
            exact j_iret (u := 0) (rv := (fun T => T)) (wv := (fun _ => (jw_Model_isVowel E))) h hQ hx hb hr jb_0 hlocks hS hP hD dX11_isVowel_35
          · replace h := jif_t hq27 h
            refine lv_iconst (v := 1) hx hb dX11_isVowel_30 (by decide) ?_
            refine lv_goto (tgt := 35) hx hb dX11_isVowel_31 (by decide) ?_
            exact j_iret (u := 1) (rv := (fun T => T)) (wv := (fun _ => (jw_Model_isVowel E))) h hQ hx hb hr jb_1 hlocks hS hP hD dX11_isVowel_35
abbrev jw_Model_last (E : jE) (q_this q_tape q_taken q_strokeMany q_kind q_textMany q_strokes q_texts q_record q_itsEntry q_itsFirst q_text q_lengthAhead q_lengthBehind q_chord q_asked q_way q_wayStrokes q_wayMany q_best q_tried q_plan q_made q_trial q_two : Nat) (c_taped : Int32) (c_entries : Int32) (c_recorded : Int32) (c_translations : Int32) (c_length : Int32) (c_shift : Int32) (c_link : Int32) (c_chordMany : Int32) (c_lastMany : Int32) (c_bestMany : Int32) (c_bestStrokes : Int32) (c_triedMany : Int32) (c_triedStrokes : Int32) (c_planMany : Int32) (c_planStrokes : Int32) (c_madeMany : Int32) (c_madeStrokes : Int32) (c_isClear : Int32) (c_isPlanned : Int32) (a_text : (Nat → Int32)) : va_W := [(q_this, .inr (11, [.ref q_tape, .ref q_taken, .int c_taped, .int c_entries, .ref q_strokeMany, .ref q_kind, .ref q_textMany, .ref q_strokes, .ref q_texts, .ref q_record, .int c_recorded, .ref q_itsEntry, .ref q_itsFirst, .int c_translations, .ref q_text, .ref q_lengthAhead, .ref q_lengthBehind, .int c_length, .int c_shift, .int c_link, .ref q_chord, .int c_chordMany, .int c_lastMany, .ref q_asked, .ref q_way, .ref q_wayStrokes, .ref q_wayMany, .ref q_best, .ref q_tried, .ref q_plan, .ref q_made, .int c_bestMany, .int c_bestStrokes, .int c_triedMany, .int c_triedStrokes, .int c_planMany, .int c_planStrokes, .int c_madeMany, .int c_madeStrokes, .int c_isClear, .int c_isPlanned, .ref q_trial, .ref q_two])), (q_text, .inl (E.2.1, 8000, .inl a_text))]
def jr_Model_last : Room := { frames := 1, cells := 0, slots := 0, locals := 20 }
set_option maxHeartbeats 4000000 in
set_option maxRecDepth 100000 in
theorem jc_Model_last (l : Launch) (E : jE) (q_this q_tape q_taken q_strokeMany q_kind q_textMany q_strokes q_texts q_record q_itsEntry q_itsFirst q_text q_lengthAhead q_lengthBehind q_chord q_asked q_way q_wayStrokes q_wayMany q_best q_tried q_plan q_made q_trial q_two : Nat) (c_taped : Int32) (c_entries : Int32) (c_recorded : Int32) (c_translations : Int32) (c_length : Int32) (c_shift : Int32) (c_link : Int32) (c_chordMany : Int32) (c_lastMany : Int32) (c_bestMany : Int32) (c_bestStrokes : Int32) (c_triedMany : Int32) (c_triedStrokes : Int32) (c_planMany : Int32) (c_planStrokes : Int32) (c_madeMany : Int32) (c_madeStrokes : Int32) (c_isClear : Int32) (c_isPlanned : Int32) (a_text : (Nat → Int32)) (x1 : Int32) (N : Nat) {T : Int32} (h : jf_Model_last x1 c_length c_lastMany a_text = some T) : jMi l yX11_last wsX11_last jr_Model_last E [.ref q_this, .int x1] (jw_Model_last E q_this q_tape q_taken q_strokeMany q_kind q_textMany q_strokes q_texts q_record q_itsEntry q_itsFirst q_text q_lengthAhead q_lengthBehind q_chord q_asked q_way q_wayStrokes q_wayMany q_best q_tried q_plan q_made q_trial q_two c_taped c_entries c_recorded c_translations c_length c_shift c_link c_chordMany c_lastMany c_bestMany c_bestStrokes c_triedMany c_triedStrokes c_planMany c_planStrokes c_madeMany c_madeStrokes c_isClear c_isPlanned a_text) (T) (jw_Model_last E q_this q_tape q_taken q_strokeMany q_kind q_textMany q_strokes q_texts q_record q_itsEntry q_itsFirst q_text q_lengthAhead q_lengthBehind q_chord q_asked q_way q_wayStrokes q_wayMany q_best q_tried q_plan q_made q_trial q_two c_taped c_entries c_recorded c_translations c_length c_shift c_link c_chordMany c_lastMany c_bestMany c_bestStrokes c_triedMany c_triedStrokes c_planMany c_planStrokes c_madeMany c_madeStrokes c_isClear c_isPlanned a_text) := by
  refine jMi.begin (cc := cX11_last) (maxL := 2) (ret := (some .int)) (by decide) rfl (Nat.le_of_ble_eq_true rfl) ?_
  intro p e s m args below meth c A ls Q hQ hx hb hr hml hown hlocks hts hK hA hP hD hS hl
  replace hown : s.vm.findClass RX11 = some m.cls := hown
  replace hl : lv_has ls 2 [(0, .ref q_this), (1, .int x1)] := hl
  have hin11 : ∀ w ∈ u_ws RX11 TX11 43, w ∈ wsX11_last := by decide +kernel
  have hk_41 := hts (.fieldLink RX11 41 "StenoRoomModel" "text" "[B") (by decide +kernel)
  have hk_130 := hts (.fieldLink RX11 130 "StenoRoomModel" "length" "I") (by decide +kernel)
  have hk_156 := hts (.fieldLink RX11 156 "StenoRoomModel" "lastMany" "I") (by decide +kernel)
  unfold jf_Model_last at h
  refine lv_iload_n hx hb dX11_last_0 rfl (lv_at hl 1 rfl) ?_
  refine lv_aload_n hx hb dX11_last_1 rfl (lv_at hl 0 rfl) ?_
  refine va_get (D := E.1) (ci := 11) (v := .int c_lastMany) (C := RX11) (T := TX11) (N := 43) hx hb hts hin11 hown hK.1 hP 0 rfl rfl 22 (by decide) hk_156 (fun _ h9 => h9) rfl dX11_last_2 ?_
  refine lv_icmp_ge (tgt := 31) hx hb dX11_last_5 (by decide) (fun hq5 => ?_) (fun hq5 => ?_)
  · replace h := jif_t hq5 h
    refine lv_iconst (v := 0) hx hb dX11_last_31 (by decide) ?_
    exact j_iret (u := 0) (rv := (fun T => T)) (wv := (fun _ => (jw_Model_last E q_this q_tape q_taken q_strokeMany q_kind q_textMany q_strokes q_texts q_record q_itsEntry q_itsFirst q_text q_lengthAhead q_lengthBehind q_chord q_asked q_way q_wayStrokes q_wayMany q_best q_tried q_plan q_made q_trial q_two c_taped c_entries c_recorded c_translations c_length c_shift c_link c_chordMany c_lastMany c_bestMany c_bestStrokes c_triedMany c_triedStrokes c_planMany c_planStrokes c_madeMany c_madeStrokes c_isClear c_isPlanned a_text))) h hQ hx hb hr rfl hlocks hS hP hD dX11_last_32
  · replace h := jif_f hq5 h
    refine lv_aload_n hx hb dX11_last_8 rfl (lv_at hl 0 rfl) ?_
    refine va_get (D := E.1) (ci := 11) (v := .ref q_text) (C := RX11) (T := TX11) (N := 43) hx hb hts hin11 hown hK.1 hP 0 rfl rfl 14 (by decide) hk_41 (fun _ h9 => h9) rfl dX11_last_9 ?_
    refine lv_aload_n hx hb dX11_last_12 rfl (lv_at hl 0 rfl) ?_
    refine va_get (D := E.1) (ci := 11) (v := .int c_length) (C := RX11) (T := TX11) (N := 43) hx hb hts hin11 hown hK.1 hP 0 rfl rfl 17 (by decide) hk_130 (fun _ h9 => h9) rfl dX11_last_13 ?_
    refine lv_iconst (v := 1) hx hb dX11_last_16 (by decide) ?_
    refine lv_isub hx hb dX11_last_17 ?_
    refine lv_iload_n hx hb dX11_last_18 rfl (lv_at hl 1 rfl) ?_
    refine lv_isub hx hb dX11_last_19 ?_
    obtain ⟨g20, h⟩ := jga_e h
    refine va_bald hx hb hK.1 hP 1 0 rfl rfl g20 dX11_last_20 ?_
    refine lv_sipush (v := 255) hx hb dX11_last_21 (by decide) ?_
    refine lv_iand hx hb dX11_last_24 ?_
    obtain ⟨r25, hf25, h⟩ := jbd h
    refine j_callSi (own := RX11) (As := [.int ((a_text ((c_length - 1) - x1).toNatClampNeg) &&& 255)]) (rest := []) hx hb hml hown hts hK hA hP hD hS (jc_Model_small l E ((a_text ((c_length - 1) - x1).toNatClampNeg) &&& 255) N hf25) gX11_last_X11_small rfl ⟨rfl, rfl⟩ 1 (by decide +kernel) rfl rfl [] [0, 1] [0, 1] rfl rfl rfl rfl rfl rfl rfl hl.1 rfl rfl dX11_last_25 (fun H locs hP hD hS => ?_)
    replace hP : va_P E.1 vwCl (jw_Model_last E q_this q_tape q_taken q_strokeMany q_kind q_textMany q_strokes q_texts q_record q_itsEntry q_itsFirst q_text q_lengthAhead q_lengthBehind q_chord q_asked q_way q_wayStrokes q_wayMany q_best q_tried q_plan q_made q_trial q_two c_taped c_entries c_recorded c_translations c_length c_shift c_link c_chordMany c_lastMany c_bestMany c_bestStrokes c_triedMany c_triedStrokes c_planMany c_planStrokes c_madeMany c_madeStrokes c_isClear c_isPlanned a_text) H := hP
    replace hD : va_D A (jw_Model_last E q_this q_tape q_taken q_strokeMany q_kind q_textMany q_strokes q_texts q_record q_itsEntry q_itsFirst q_text q_lengthAhead q_lengthBehind q_chord q_asked q_way q_wayStrokes q_wayMany q_best q_tried q_plan q_made q_trial q_two c_taped c_entries c_recorded c_translations c_length c_shift c_link c_chordMany c_lastMany c_bestMany c_bestStrokes c_triedMany c_triedStrokes c_planMany c_planStrokes c_madeMany c_madeStrokes c_isClear c_isPlanned a_text) := hD
    refine lv_goto (tgt := 32) hx hb dX11_last_28 (by decide) ?_
    exact j_iret (u := r25) (rv := (fun T => T)) (wv := (fun _ => (jw_Model_last E q_this q_tape q_taken q_strokeMany q_kind q_textMany q_strokes q_texts q_record q_itsEntry q_itsFirst q_text q_lengthAhead q_lengthBehind q_chord q_asked q_way q_wayStrokes q_wayMany q_best q_tried q_plan q_made q_trial q_two c_taped c_entries c_recorded c_translations c_length c_shift c_link c_chordMany c_lastMany c_bestMany c_bestStrokes c_triedMany c_triedStrokes c_planMany c_planStrokes c_madeMany c_madeStrokes c_isClear c_isPlanned a_text))) h hQ hx hb hr rfl hlocks hS hP hD dX11_last_32
abbrev jw_Model_ruleOf (E : jE) (q_this q_tape q_taken q_strokeMany q_kind q_textMany q_strokes q_texts q_record q_itsEntry q_itsFirst q_text q_lengthAhead q_lengthBehind q_chord q_asked q_way q_wayStrokes q_wayMany q_best q_tried q_plan q_made q_trial q_two : Nat) (c_taped : Int32) (c_entries : Int32) (c_recorded : Int32) (c_translations : Int32) (c_length : Int32) (c_shift : Int32) (c_link : Int32) (c_chordMany : Int32) (c_lastMany : Int32) (c_bestMany : Int32) (c_bestStrokes : Int32) (c_triedMany : Int32) (c_triedStrokes : Int32) (c_planMany : Int32) (c_planStrokes : Int32) (c_madeMany : Int32) (c_madeStrokes : Int32) (c_isClear : Int32) (c_isPlanned : Int32) (a_text : (Nat → Int32)) (a_textMany : (Nat → Int32)) (a_texts : (Nat → Int32)) : va_W := [(q_this, .inr (11, [.ref q_tape, .ref q_taken, .int c_taped, .int c_entries, .ref q_strokeMany, .ref q_kind, .ref q_textMany, .ref q_strokes, .ref q_texts, .ref q_record, .int c_recorded, .ref q_itsEntry, .ref q_itsFirst, .int c_translations, .ref q_text, .ref q_lengthAhead, .ref q_lengthBehind, .int c_length, .int c_shift, .int c_link, .ref q_chord, .int c_chordMany, .int c_lastMany, .ref q_asked, .ref q_way, .ref q_wayStrokes, .ref q_wayMany, .ref q_best, .ref q_tried, .ref q_plan, .ref q_made, .int c_bestMany, .int c_bestStrokes, .int c_triedMany, .int c_triedStrokes, .int c_planMany, .int c_planStrokes, .int c_madeMany, .int c_madeStrokes, .int c_isClear, .int c_isPlanned, .ref q_trial, .ref q_two])), (q_text, .inl (E.2.1, 8000, .inl a_text)), (q_textMany, .inl (E.2.2.1, 61, .inl a_textMany)), (q_texts, .inl (E.2.1, 976, .inl a_texts))]
def jr_Model_ruleOf : Room := { frames := 2, cells := 0, slots := 0, locals := 41 }
set_option maxHeartbeats 4000000 in
set_option maxRecDepth 100000 in
theorem jc_Model_ruleOf (l : Launch) (E : jE) (q_this q_tape q_taken q_strokeMany q_kind q_textMany q_strokes q_texts q_record q_itsEntry q_itsFirst q_text q_lengthAhead q_lengthBehind q_chord q_asked q_way q_wayStrokes q_wayMany q_best q_tried q_plan q_made q_trial q_two : Nat) (c_taped : Int32) (c_entries : Int32) (c_recorded : Int32) (c_translations : Int32) (c_length : Int32) (c_shift : Int32) (c_link : Int32) (c_chordMany : Int32) (c_lastMany : Int32) (c_bestMany : Int32) (c_bestStrokes : Int32) (c_triedMany : Int32) (c_triedStrokes : Int32) (c_planMany : Int32) (c_planStrokes : Int32) (c_madeMany : Int32) (c_madeStrokes : Int32) (c_isClear : Int32) (c_isPlanned : Int32) (a_text : (Nat → Int32)) (a_textMany : (Nat → Int32)) (a_texts : (Nat → Int32)) (x1 : Int32) (N : Nat) {T : Int32} (h : jf_Model_ruleOf N x1 c_length c_lastMany a_text a_textMany a_texts = some T) : jMi l yX11_ruleOf wsX11_ruleOf jr_Model_ruleOf E [.ref q_this, .int x1] (jw_Model_ruleOf E q_this q_tape q_taken q_strokeMany q_kind q_textMany q_strokes q_texts q_record q_itsEntry q_itsFirst q_text q_lengthAhead q_lengthBehind q_chord q_asked q_way q_wayStrokes q_wayMany q_best q_tried q_plan q_made q_trial q_two c_taped c_entries c_recorded c_translations c_length c_shift c_link c_chordMany c_lastMany c_bestMany c_bestStrokes c_triedMany c_triedStrokes c_planMany c_planStrokes c_madeMany c_madeStrokes c_isClear c_isPlanned a_text a_textMany a_texts) (T) (jw_Model_ruleOf E q_this q_tape q_taken q_strokeMany q_kind q_textMany q_strokes q_texts q_record q_itsEntry q_itsFirst q_text q_lengthAhead q_lengthBehind q_chord q_asked q_way q_wayStrokes q_wayMany q_best q_tried q_plan q_made q_trial q_two c_taped c_entries c_recorded c_translations c_length c_shift c_link c_chordMany c_lastMany c_bestMany c_bestStrokes c_triedMany c_triedStrokes c_planMany c_planStrokes c_madeMany c_madeStrokes c_isClear c_isPlanned a_text a_textMany a_texts) := by
  refine jMi.begin (cc := cX11_ruleOf) (maxL := 9) (ret := (some .int)) (by decide) rfl (Nat.le_of_ble_eq_true rfl) ?_
  intro p e s m args below meth c A ls Q hQ hx hb hr hml hown hlocks hts hK hA hP hD hS hl
  replace hown : s.vm.findClass RX11 = some m.cls := hown
  replace hl : lv_has ls 9 [(0, .ref q_this), (1, .int x1)] := hl
  have hin11 : ∀ w ∈ u_ws RX11 TX11 43, w ∈ wsX11_ruleOf := by decide +kernel
  have hk_23 := hts (.fieldLink RX11 23 "StenoRoomModel" "textMany" "[I") (by decide +kernel)
  have hk_156 := hts (.fieldLink RX11 156 "StenoRoomModel" "lastMany" "I") (by decide +kernel)
  have kb294 : ∀ (x3 : Int32) (x7 : Int32) (H : Heap) (locs : List Loc) (ls : Array Slot), jf_Model_ruleOf_b294 x3 x7 = some T → va_P E.1 vwCl (jw_Model_ruleOf E q_this q_tape q_taken q_strokeMany q_kind q_textMany q_strokes q_texts q_record q_itsEntry q_itsFirst q_text q_lengthAhead q_lengthBehind q_chord q_asked q_way q_wayStrokes q_wayMany q_best q_tried q_plan q_made q_trial q_two c_taped c_entries c_recorded c_translations c_length c_shift c_link c_chordMany c_lastMany c_bestMany c_bestStrokes c_triedMany c_triedStrokes c_planMany c_planStrokes c_madeMany c_madeStrokes c_isClear c_isPlanned a_text a_textMany a_texts) H → va_D A (jw_Model_ruleOf E q_this q_tape q_taken q_strokeMany q_kind q_textMany q_strokes q_texts q_record q_itsEntry q_itsFirst q_text q_lengthAhead q_lengthBehind q_chord q_asked q_way q_wayStrokes q_wayMany q_best q_tried q_plan q_made q_trial q_two c_taped c_entries c_recorded c_translations c_length c_shift c_link c_chordMany c_lastMany c_bestMany c_bestStrokes c_triedMany c_triedStrokes c_planMany c_planStrokes c_madeMany c_madeStrokes c_isClear c_isPlanned a_text a_textMany a_texts) → va_S A s.heap H locs → lv_has ls 9 [(0, .ref q_this), (3, .int x3), (7, .int x7)] → W p l e jr_Model_ruleOf s m args below meth c H locs 0 0 Q (F0 m 294 ls []) := by
    intro  x3 x7 H locs ls h hP hD hS hl
    unfold jf_Model_ruleOf_b294 at h
    refine lv_iload_n hx hb dX11_ruleOf_294 rfl (lv_at hl 1 rfl) ?_
    refine lv_if_eq (tgt := 307) hx hb dX11_ruleOf_295 (by decide) (fun hq295 => ?_) (fun hq295 => ?_)
    · replace h := jif_t hq295 h
      refine lv_iconst (v := 5) hx hb dX11_ruleOf_307 (by decide) ?_
      exact j_iret (u := 5) (rv := (fun T => T)) (wv := (fun _ => (jw_Model_ruleOf E q_this q_tape q_taken q_strokeMany q_kind q_textMany q_strokes q_texts q_record q_itsEntry q_itsFirst q_text q_lengthAhead q_lengthBehind q_chord q_asked q_way q_wayStrokes q_wayMany q_best q_tried q_plan q_made q_trial q_two c_taped c_entries c_recorded c_translations c_length c_shift c_link c_chordMany c_lastMany c_bestMany c_bestStrokes c_triedMany c_triedStrokes c_planMany c_planStrokes c_madeMany c_madeStrokes c_isClear c_isPlanned a_text a_textMany a_texts))) h hQ hx hb hr rfl hlocks hS hP hD dX11_ruleOf_308
    · replace h := jif_f hq295 h
      refine lv_iload hx hb dX11_ruleOf_298 (lv_at hl 2 rfl) ?_
      refine lv_if_eq (tgt := 307) hx hb dX11_ruleOf_300 (by decide) (fun hq300 => ?_) (fun hq300 => ?_)
      · replace h := jif_t hq300 h
        refine lv_iconst (v := 5) hx hb dX11_ruleOf_307 (by decide) ?_
        exact j_iret (u := 5) (rv := (fun T => T)) (wv := (fun _ => (jw_Model_ruleOf E q_this q_tape q_taken q_strokeMany q_kind q_textMany q_strokes q_texts q_record q_itsEntry q_itsFirst q_text q_lengthAhead q_lengthBehind q_chord q_asked q_way q_wayStrokes q_wayMany q_best q_tried q_plan q_made q_trial q_two c_taped c_entries c_recorded c_translations c_length c_shift c_link c_chordMany c_lastMany c_bestMany c_bestStrokes c_triedMany c_triedStrokes c_planMany c_planStrokes c_madeMany c_madeStrokes c_isClear c_isPlanned a_text a_textMany a_texts))) h hQ hx hb hr rfl hlocks hS hP hD dX11_ruleOf_308
      · replace h := jif_f hq300 h
        refine lv_iconst (v := 4) hx hb dX11_ruleOf_303 (by decide) ?_
        refine lv_goto (tgt := 308) hx hb dX11_ruleOf_304 (by decide) ?_
        exact j_iret (u := 4) (rv := (fun T => T)) (wv := (fun _ => (jw_Model_ruleOf E q_this q_tape q_taken q_strokeMany q_kind q_textMany q_strokes q_texts q_record q_itsEntry q_itsFirst q_text q_lengthAhead q_lengthBehind q_chord q_asked q_way q_wayStrokes q_wayMany q_best q_tried q_plan q_made q_trial q_two c_taped c_entries c_recorded c_translations c_length c_shift c_link c_chordMany c_lastMany c_bestMany c_bestStrokes c_triedMany c_triedStrokes c_planMany c_planStrokes c_madeMany c_madeStrokes c_isClear c_isPlanned a_text a_textMany a_texts))) h hQ hx hb hr rfl hlocks hS hP hD dX11_ruleOf_308
  have kb286 : ∀ (k255 : Int32 → Int32 → Int32 → Option (Int32)) (hk255 : ∀ (x3 : Int32) (x7 : Int32) (x8 : Int32) (H : Heap) (locs : List Loc) (ls : Array Slot), k255 x3 x7 x8 = some T → va_P E.1 vwCl (jw_Model_ruleOf E q_this q_tape q_taken q_strokeMany q_kind q_textMany q_strokes q_texts q_record q_itsEntry q_itsFirst q_text q_lengthAhead q_lengthBehind q_chord q_asked q_way q_wayStrokes q_wayMany q_best q_tried q_plan q_made q_trial q_two c_taped c_entries c_recorded c_translations c_length c_shift c_link c_chordMany c_lastMany c_bestMany c_bestStrokes c_triedMany c_triedStrokes c_planMany c_planStrokes c_madeMany c_madeStrokes c_isClear c_isPlanned a_text a_textMany a_texts) H → va_D A (jw_Model_ruleOf E q_this q_tape q_taken q_strokeMany q_kind q_textMany q_strokes q_texts q_record q_itsEntry q_itsFirst q_text q_lengthAhead q_lengthBehind q_chord q_asked q_way q_wayStrokes q_wayMany q_best q_tried q_plan q_made q_trial q_two c_taped c_entries c_recorded c_translations c_length c_shift c_link c_chordMany c_lastMany c_bestMany c_bestStrokes c_triedMany c_triedStrokes c_planMany c_planStrokes c_madeMany c_madeStrokes c_isClear c_isPlanned a_text a_textMany a_texts) → va_S A s.heap H locs → lv_has ls 9 [(0, .ref q_this), (3, .int x3), (7, .int x7), (8, .int x8)] → W p l e jr_Model_ruleOf s m args below meth c H locs 0 0 Q (F0 m 255 ls [])) (x3 : Int32) (x8 : Int32) (z0 : Int32) (H : Heap) (locs : List Loc) (ls : Array Slot), jf_Model_ruleOf_b286 k255 x3 x8 z0 = some T → va_P E.1 vwCl (jw_Model_ruleOf E q_this q_tape q_taken q_strokeMany q_kind q_textMany q_strokes q_texts q_record q_itsEntry q_itsFirst q_text q_lengthAhead q_lengthBehind q_chord q_asked q_way q_wayStrokes q_wayMany q_best q_tried q_plan q_made q_trial q_two c_taped c_entries c_recorded c_translations c_length c_shift c_link c_chordMany c_lastMany c_bestMany c_bestStrokes c_triedMany c_triedStrokes c_planMany c_planStrokes c_madeMany c_madeStrokes c_isClear c_isPlanned a_text a_textMany a_texts) H → va_D A (jw_Model_ruleOf E q_this q_tape q_taken q_strokeMany q_kind q_textMany q_strokes q_texts q_record q_itsEntry q_itsFirst q_text q_lengthAhead q_lengthBehind q_chord q_asked q_way q_wayStrokes q_wayMany q_best q_tried q_plan q_made q_trial q_two c_taped c_entries c_recorded c_translations c_length c_shift c_link c_chordMany c_lastMany c_bestMany c_bestStrokes c_triedMany c_triedStrokes c_planMany c_planStrokes c_madeMany c_madeStrokes c_isClear c_isPlanned a_text a_textMany a_texts) → va_S A s.heap H locs → lv_has ls 9 [(0, .ref q_this), (3, .int x3), (8, .int x8)] → W p l e jr_Model_ruleOf s m args below meth c H locs 0 0 Q (F0 m 286 ls [.int z0]) := by
    intro k255 hk255 x3 x8 z0 H locs ls h hP hD hS hl
    unfold jf_Model_ruleOf_b286 at h
    refine lv_istore (lv' := [(7, .int z0), (0, .ref q_this), (3, .int x3), (8, .int x8)]) hx hb dX11_ruleOf_286 hl (by decide) rfl (fun ls hl => ?_)
    refine lv_iinc (v := (x8 + 1)) (lv' := [(8, .int (x8 + 1)), (7, .int z0), (0, .ref q_this), (3, .int x3)]) hx hb dX11_ruleOf_288 hl (k := 3) rfl rfl (by decide) rfl (fun ls hl => ?_)
    refine lv_goto (tgt := 255) hx hb dX11_ruleOf_291 (by decide) ?_
    exact hk255 x3 z0 (x8 + 1) _ _ _ h hP hD hS (lv_sub hl [2, 3, 1, 0] rfl)
  have kb285 : ∀ (k255 : Int32 → Int32 → Int32 → Option (Int32)) (hk255 : ∀ (x3 : Int32) (x7 : Int32) (x8 : Int32) (H : Heap) (locs : List Loc) (ls : Array Slot), k255 x3 x7 x8 = some T → va_P E.1 vwCl (jw_Model_ruleOf E q_this q_tape q_taken q_strokeMany q_kind q_textMany q_strokes q_texts q_record q_itsEntry q_itsFirst q_text q_lengthAhead q_lengthBehind q_chord q_asked q_way q_wayStrokes q_wayMany q_best q_tried q_plan q_made q_trial q_two c_taped c_entries c_recorded c_translations c_length c_shift c_link c_chordMany c_lastMany c_bestMany c_bestStrokes c_triedMany c_triedStrokes c_planMany c_planStrokes c_madeMany c_madeStrokes c_isClear c_isPlanned a_text a_textMany a_texts) H → va_D A (jw_Model_ruleOf E q_this q_tape q_taken q_strokeMany q_kind q_textMany q_strokes q_texts q_record q_itsEntry q_itsFirst q_text q_lengthAhead q_lengthBehind q_chord q_asked q_way q_wayStrokes q_wayMany q_best q_tried q_plan q_made q_trial q_two c_taped c_entries c_recorded c_translations c_length c_shift c_link c_chordMany c_lastMany c_bestMany c_bestStrokes c_triedMany c_triedStrokes c_planMany c_planStrokes c_madeMany c_madeStrokes c_isClear c_isPlanned a_text a_textMany a_texts) → va_S A s.heap H locs → lv_has ls 9 [(0, .ref q_this), (3, .int x3), (7, .int x7), (8, .int x8)] → W p l e jr_Model_ruleOf s m args below meth c H locs 0 0 Q (F0 m 255 ls [])) (x3 : Int32) (x8 : Int32) (H : Heap) (locs : List Loc) (ls : Array Slot), jf_Model_ruleOf_b285 k255 x3 x8 = some T → va_P E.1 vwCl (jw_Model_ruleOf E q_this q_tape q_taken q_strokeMany q_kind q_textMany q_strokes q_texts q_record q_itsEntry q_itsFirst q_text q_lengthAhead q_lengthBehind q_chord q_asked q_way q_wayStrokes q_wayMany q_best q_tried q_plan q_made q_trial q_two c_taped c_entries c_recorded c_translations c_length c_shift c_link c_chordMany c_lastMany c_bestMany c_bestStrokes c_triedMany c_triedStrokes c_planMany c_planStrokes c_madeMany c_madeStrokes c_isClear c_isPlanned a_text a_textMany a_texts) H → va_D A (jw_Model_ruleOf E q_this q_tape q_taken q_strokeMany q_kind q_textMany q_strokes q_texts q_record q_itsEntry q_itsFirst q_text q_lengthAhead q_lengthBehind q_chord q_asked q_way q_wayStrokes q_wayMany q_best q_tried q_plan q_made q_trial q_two c_taped c_entries c_recorded c_translations c_length c_shift c_link c_chordMany c_lastMany c_bestMany c_bestStrokes c_triedMany c_triedStrokes c_planMany c_planStrokes c_madeMany c_madeStrokes c_isClear c_isPlanned a_text a_textMany a_texts) → va_S A s.heap H locs → lv_has ls 9 [(0, .ref q_this), (3, .int x3), (8, .int x8)] → W p l e jr_Model_ruleOf s m args below meth c H locs 0 0 Q (F0 m 285 ls []) := by
    intro k255 hk255 x3 x8 H locs ls h hP hD hS hl
    unfold jf_Model_ruleOf_b285 at h
    refine lv_iconst (v := 0) hx hb dX11_ruleOf_285 (by decide) ?_
    exact kb286 k255 hk255  x3 x8 0 _ _ _ h hP hD hS (lv_sub hl [0, 1, 2] rfl)
  have kb255 : ∀ (n : Nat) (x3 : Int32) (x7 : Int32) (x8 : Int32) (H : Heap) (locs : List Loc) (ls : Array Slot), jf_Model_ruleOf_b255 c_length c_lastMany a_text n x3 x7 x8 = some T → va_P E.1 vwCl (jw_Model_ruleOf E q_this q_tape q_taken q_strokeMany q_kind q_textMany q_strokes q_texts q_record q_itsEntry q_itsFirst q_text q_lengthAhead q_lengthBehind q_chord q_asked q_way q_wayStrokes q_wayMany q_best q_tried q_plan q_made q_trial q_two c_taped c_entries c_recorded c_translations c_length c_shift c_link c_chordMany c_lastMany c_bestMany c_bestStrokes c_triedMany c_triedStrokes c_planMany c_planStrokes c_madeMany c_madeStrokes c_isClear c_isPlanned a_text a_textMany a_texts) H → va_D A (jw_Model_ruleOf E q_this q_tape q_taken q_strokeMany q_kind q_textMany q_strokes q_texts q_record q_itsEntry q_itsFirst q_text q_lengthAhead q_lengthBehind q_chord q_asked q_way q_wayStrokes q_wayMany q_best q_tried q_plan q_made q_trial q_two c_taped c_entries c_recorded c_translations c_length c_shift c_link c_chordMany c_lastMany c_bestMany c_bestStrokes c_triedMany c_triedStrokes c_planMany c_planStrokes c_madeMany c_madeStrokes c_isClear c_isPlanned a_text a_textMany a_texts) → va_S A s.heap H locs → lv_has ls 9 [(0, .ref q_this), (3, .int x3), (7, .int x7), (8, .int x8)] → W p l e jr_Model_ruleOf s m args below meth c H locs 0 0 Q (F0 m 255 ls []) := by
    intro n
    induction n with
    | zero => intro x3 x7 x8 H locs ls h; exact j_none (α := Int32) h
    | succ n ih =>
      intro x3 x7 x8 H locs ls h hP hD hS hl
      rw [jf_Model_ruleOf_b255] at h
      refine lv_iload hx hb dX11_ruleOf_255 (lv_at hl 3 rfl) ?_
      refine lv_aload_n hx hb dX11_ruleOf_257 rfl (lv_at hl 0 rfl) ?_
      refine va_get (D := E.1) (ci := 11) (v := .int c_lastMany) (C := RX11) (T := TX11) (N := 43) hx hb hts hin11 hown hK.1 hP 0 rfl rfl 22 (by decide) hk_156 (fun _ h9 => h9) rfl dX11_ruleOf_258 ?_
      refine lv_icmp_ge (tgt := 294) hx hb dX11_ruleOf_261 (by decide) (fun hq261 => ?_) (fun hq261 => ?_)
      · replace h := jif_t hq261 h
        exact kb294   x3 x7 _ _ _ h hP hD hS (lv_sub hl [0, 1, 2] rfl)
      · replace h := jif_f hq261 h
        refine lv_iload hx hb dX11_ruleOf_264 (lv_at hl 2 rfl) ?_
        refine lv_if_eq (tgt := 285) hx hb dX11_ruleOf_266 (by decide) (fun hq266 => ?_) (fun hq266 => ?_)
        · replace h := jif_t hq266 h
          exact kb285 (jf_Model_ruleOf_b255 c_length c_lastMany a_text n) ih  x3 x8 _ _ _ h hP hD hS (lv_sub hl [0, 1, 3] rfl)
        · replace h := jif_f hq266 h
          refine lv_aload_n hx hb dX11_ruleOf_269 rfl (lv_at hl 0 rfl) ?_
          refine lv_iload hx hb dX11_ruleOf_270 (lv_at hl 3 rfl) ?_
          obtain ⟨r272, hf272, h⟩ := jbd h
          refine j_callVi (own := RX11) (As := [.int x8]) (rest := []) hx hb hml hown hts hK hA hP hD hS (jc_Model_last l E q_this q_tape q_taken q_strokeMany q_kind q_textMany q_strokes q_texts q_record q_itsEntry q_itsFirst q_text q_lengthAhead q_lengthBehind q_chord q_asked q_way q_wayStrokes q_wayMany q_best q_tried q_plan q_made q_trial q_two c_taped c_entries c_recorded c_translations c_length c_shift c_link c_chordMany c_lastMany c_bestMany c_bestStrokes c_triedMany c_triedStrokes c_planMany c_planStrokes c_madeMany c_madeStrokes c_isClear c_isPlanned a_text x8 N hf272) gX11_ruleOf_X11_last rfl ⟨rfl, rfl⟩ 1 (by decide +kernel) rfl rfl 0 11 rfl rfl [0, 1] [2, 3] [2, 3, 0, 1] rfl rfl rfl rfl rfl rfl rfl hl.1 rfl rfl dX11_ruleOf_272 (fun H locs hP hD hS => ?_)
          replace hP : va_P E.1 vwCl (jw_Model_ruleOf E q_this q_tape q_taken q_strokeMany q_kind q_textMany q_strokes q_texts q_record q_itsEntry q_itsFirst q_text q_lengthAhead q_lengthBehind q_chord q_asked q_way q_wayStrokes q_wayMany q_best q_tried q_plan q_made q_trial q_two c_taped c_entries c_recorded c_translations c_length c_shift c_link c_chordMany c_lastMany c_bestMany c_bestStrokes c_triedMany c_triedStrokes c_planMany c_planStrokes c_madeMany c_madeStrokes c_isClear c_isPlanned a_text a_textMany a_texts) H := hP
          replace hD : va_D A (jw_Model_ruleOf E q_this q_tape q_taken q_strokeMany q_kind q_textMany q_strokes q_texts q_record q_itsEntry q_itsFirst q_text q_lengthAhead q_lengthBehind q_chord q_asked q_way q_wayStrokes q_wayMany q_best q_tried q_plan q_made q_trial q_two c_taped c_entries c_recorded c_translations c_length c_shift c_link c_chordMany c_lastMany c_bestMany c_bestStrokes c_triedMany c_triedStrokes c_planMany c_planStrokes c_madeMany c_madeStrokes c_isClear c_isPlanned a_text a_textMany a_texts) := hD
          obtain ⟨r275, hf275, h⟩ := jbd h
          refine j_callSi (own := RX11) (As := [.int r272]) (rest := []) hx hb hml hown hts hK hA hP hD hS (jc_Model_isVowel l E r272 N hf275) gX11_ruleOf_X11_isVowel rfl ⟨rfl, rfl⟩ 1 (by decide +kernel) rfl rfl [] [0, 1, 2, 3] [0, 1, 2, 3] rfl rfl rfl rfl rfl rfl rfl hl.1 rfl rfl dX11_ruleOf_275 (fun H locs hP hD hS => ?_)
          replace hP : va_P E.1 vwCl (jw_Model_ruleOf E q_this q_tape q_taken q_strokeMany q_kind q_textMany q_strokes q_texts q_record q_itsEntry q_itsFirst q_text q_lengthAhead q_lengthBehind q_chord q_asked q_way q_wayStrokes q_wayMany q_best q_tried q_plan q_made q_trial q_two c_taped c_entries c_recorded c_translations c_length c_shift c_link c_chordMany c_lastMany c_bestMany c_bestStrokes c_triedMany c_triedStrokes c_planMany c_planStrokes c_madeMany c_madeStrokes c_isClear c_isPlanned a_text a_textMany a_texts) H := hP
          replace hD : va_D A (jw_Model_ruleOf E q_this q_tape q_taken q_strokeMany q_kind q_textMany q_strokes q_texts q_record q_itsEntry q_itsFirst q_text q_lengthAhead q_lengthBehind q_chord q_asked q_way q_wayStrokes q_wayMany q_best q_tried q_plan q_made q_trial q_two c_taped c_entries c_recorded c_translations c_length c_shift c_link c_chordMany c_lastMany c_bestMany c_bestStrokes c_triedMany c_triedStrokes c_planMany c_planStrokes c_madeMany c_madeStrokes c_isClear c_isPlanned a_text a_textMany a_texts) := hD
          refine lv_if_ne (tgt := 285) hx hb dX11_ruleOf_278 (by decide) (fun hq278 => ?_) (fun hq278 => ?_)
          · replace h := jif_f hq278 h
            exact kb285 (jf_Model_ruleOf_b255 c_length c_lastMany a_text n) ih  x3 x8 _ _ _ h hP hD hS (lv_sub hl [0, 1, 3] rfl)
          · replace h := jif_t hq278 h
            refine lv_iconst (v := 1) hx hb dX11_ruleOf_281 (by decide) ?_
            refine lv_goto (tgt := 286) hx hb dX11_ruleOf_282 (by decide) ?_
            exact kb286 (jf_Model_ruleOf_b255 c_length c_lastMany a_text n) ih  x3 x8 1 _ _ _ h hP hD hS (lv_sub hl [0, 1, 3] rfl)
  have kb250 : ∀ (x3 : Int32) (z0 : Int32) (H : Heap) (locs : List Loc) (ls : Array Slot), jf_Model_ruleOf_b250 N c_length c_lastMany a_text x3 z0 = some T → va_P E.1 vwCl (jw_Model_ruleOf E q_this q_tape q_taken q_strokeMany q_kind q_textMany q_strokes q_texts q_record q_itsEntry q_itsFirst q_text q_lengthAhead q_lengthBehind q_chord q_asked q_way q_wayStrokes q_wayMany q_best q_tried q_plan q_made q_trial q_two c_taped c_entries c_recorded c_translations c_length c_shift c_link c_chordMany c_lastMany c_bestMany c_bestStrokes c_triedMany c_triedStrokes c_planMany c_planStrokes c_madeMany c_madeStrokes c_isClear c_isPlanned a_text a_textMany a_texts) H → va_D A (jw_Model_ruleOf E q_this q_tape q_taken q_strokeMany q_kind q_textMany q_strokes q_texts q_record q_itsEntry q_itsFirst q_text q_lengthAhead q_lengthBehind q_chord q_asked q_way q_wayStrokes q_wayMany q_best q_tried q_plan q_made q_trial q_two c_taped c_entries c_recorded c_translations c_length c_shift c_link c_chordMany c_lastMany c_bestMany c_bestStrokes c_triedMany c_triedStrokes c_planMany c_planStrokes c_madeMany c_madeStrokes c_isClear c_isPlanned a_text a_textMany a_texts) → va_S A s.heap H locs → lv_has ls 9 [(0, .ref q_this), (3, .int x3)] → W p l e jr_Model_ruleOf s m args below meth c H locs 0 0 Q (F0 m 250 ls [.int z0]) := by
    intro  x3 z0 H locs ls h hP hD hS hl
    unfold jf_Model_ruleOf_b250 at h
    refine lv_istore (lv' := [(7, .int z0), (0, .ref q_this), (3, .int x3)]) hx hb dX11_ruleOf_250 hl (by decide) rfl (fun ls hl => ?_)
    refine lv_iconst (v := 3) hx hb dX11_ruleOf_252 (by decide) ?_
    refine lv_istore (lv' := [(8, .int 3), (7, .int z0), (0, .ref q_this), (3, .int x3)]) hx hb dX11_ruleOf_253 hl (by decide) rfl (fun ls hl => ?_)
    exact kb255  N x3 z0 3 _ _ _ h hP hD hS (lv_sub hl [2, 3, 1, 0] rfl)
  have kb249 : ∀ (x3 : Int32) (H : Heap) (locs : List Loc) (ls : Array Slot), jf_Model_ruleOf_b249 N c_length c_lastMany a_text x3 = some T → va_P E.1 vwCl (jw_Model_ruleOf E q_this q_tape q_taken q_strokeMany q_kind q_textMany q_strokes q_texts q_record q_itsEntry q_itsFirst q_text q_lengthAhead q_lengthBehind q_chord q_asked q_way q_wayStrokes q_wayMany q_best q_tried q_plan q_made q_trial q_two c_taped c_entries c_recorded c_translations c_length c_shift c_link c_chordMany c_lastMany c_bestMany c_bestStrokes c_triedMany c_triedStrokes c_planMany c_planStrokes c_madeMany c_madeStrokes c_isClear c_isPlanned a_text a_textMany a_texts) H → va_D A (jw_Model_ruleOf E q_this q_tape q_taken q_strokeMany q_kind q_textMany q_strokes q_texts q_record q_itsEntry q_itsFirst q_text q_lengthAhead q_lengthBehind q_chord q_asked q_way q_wayStrokes q_wayMany q_best q_tried q_plan q_made q_trial q_two c_taped c_entries c_recorded c_translations c_length c_shift c_link c_chordMany c_lastMany c_bestMany c_bestStrokes c_triedMany c_triedStrokes c_planMany c_planStrokes c_madeMany c_madeStrokes c_isClear c_isPlanned a_text a_textMany a_texts) → va_S A s.heap H locs → lv_has ls 9 [(0, .ref q_this), (3, .int x3)] → W p l e jr_Model_ruleOf s m args below meth c H locs 0 0 Q (F0 m 249 ls []) := by
    intro  x3 H locs ls h hP hD hS hl
    unfold jf_Model_ruleOf_b249 at h
    refine lv_iconst (v := 0) hx hb dX11_ruleOf_249 (by decide) ?_
    exact kb250   x3 0 _ _ _ h hP hD hS (lv_sub hl [0, 1] rfl)
  have kb189 : ∀ (x3 : Int32) (x4 : Int32) (x5 : Int32) (H : Heap) (locs : List Loc) (ls : Array Slot), jf_Model_ruleOf_b189 N c_length c_lastMany a_text x3 x4 x5 = some T → va_P E.1 vwCl (jw_Model_ruleOf E q_this q_tape q_taken q_strokeMany q_kind q_textMany q_strokes q_texts q_record q_itsEntry q_itsFirst q_text q_lengthAhead q_lengthBehind q_chord q_asked q_way q_wayStrokes q_wayMany q_best q_tried q_plan q_made q_trial q_two c_taped c_entries c_recorded c_translations c_length c_shift c_link c_chordMany c_lastMany c_bestMany c_bestStrokes c_triedMany c_triedStrokes c_planMany c_planStrokes c_madeMany c_madeStrokes c_isClear c_isPlanned a_text a_textMany a_texts) H → va_D A (jw_Model_ruleOf E q_this q_tape q_taken q_strokeMany q_kind q_textMany q_strokes q_texts q_record q_itsEntry q_itsFirst q_text q_lengthAhead q_lengthBehind q_chord q_asked q_way q_wayStrokes q_wayMany q_best q_tried q_plan q_made q_trial q_two c_taped c_entries c_recorded c_translations c_length c_shift c_link c_chordMany c_lastMany c_bestMany c_bestStrokes c_triedMany c_triedStrokes c_planMany c_planStrokes c_madeMany c_madeStrokes c_isClear c_isPlanned a_text a_textMany a_texts) → va_S A s.heap H locs → lv_has ls 9 [(0, .ref q_this), (3, .int x3), (4, .int x4), (5, .int x5)] → W p l e jr_Model_ruleOf s m args below meth c H locs 0 0 Q (F0 m 189 ls []) := by
    intro  x3 x4 x5 H locs ls h hP hD hS hl
    unfold jf_Model_ruleOf_b189 at h
    refine lv_aload_n hx hb dX11_ruleOf_189 rfl (lv_at hl 0 rfl) ?_
    refine va_get (D := E.1) (ci := 11) (v := .int c_lastMany) (C := RX11) (T := TX11) (N := 43) hx hb hts hin11 hown hK.1 hP 0 rfl rfl 22 (by decide) hk_156 (fun _ h9 => h9) rfl dX11_ruleOf_190 ?_
    refine lv_iconst (v := 3) hx hb dX11_ruleOf_193 (by decide) ?_
    refine lv_icmp_lt (tgt := 249) hx hb dX11_ruleOf_194 (by decide) (fun hq194 => ?_) (fun hq194 => ?_)
    · replace h := jif_t hq194 h
      exact kb249   x3 _ _ _ h hP hD hS (lv_sub hl [0, 1] rfl)
    · replace h := jif_f hq194 h
      refine lv_iload hx hb dX11_ruleOf_197 (lv_at hl 2 rfl) ?_
      obtain ⟨r199, hf199, h⟩ := jbd h
      refine j_callSi (own := RX11) (As := [.int x4]) (rest := []) hx hb hml hown hts hK hA hP hD hS (jc_Model_isVowel l E x4 N hf199) gX11_ruleOf_X11_isVowel rfl ⟨rfl, rfl⟩ 1 (by decide +kernel) rfl rfl [] [0, 1, 2, 3] [0, 1, 2, 3] rfl rfl rfl rfl rfl rfl rfl hl.1 rfl rfl dX11_ruleOf_199 (fun H locs hP hD hS => ?_)
      replace hP : va_P E.1 vwCl (jw_Model_ruleOf E q_this q_tape q_taken q_strokeMany q_kind q_textMany q_strokes q_texts q_record q_itsEntry q_itsFirst q_text q_lengthAhead q_lengthBehind q_chord q_asked q_way q_wayStrokes q_wayMany q_best q_tried q_plan q_made q_trial q_two c_taped c_entries c_recorded c_translations c_length c_shift c_link c_chordMany c_lastMany c_bestMany c_bestStrokes c_triedMany c_triedStrokes c_planMany c_planStrokes c_madeMany c_madeStrokes c_isClear c_isPlanned a_text a_textMany a_texts) H := hP
      replace hD : va_D A (jw_Model_ruleOf E q_this q_tape q_taken q_strokeMany q_kind q_textMany q_strokes q_texts q_record q_itsEntry q_itsFirst q_text q_lengthAhead q_lengthBehind q_chord q_asked q_way q_wayStrokes q_wayMany q_best q_tried q_plan q_made q_trial q_two c_taped c_entries c_recorded c_translations c_length c_shift c_link c_chordMany c_lastMany c_bestMany c_bestStrokes c_triedMany c_triedStrokes c_planMany c_planStrokes c_madeMany c_madeStrokes c_isClear c_isPlanned a_text a_textMany a_texts) := hD
      refine lv_if_ne (tgt := 249) hx hb dX11_ruleOf_202 (by decide) (fun hq202 => ?_) (fun hq202 => ?_)
      · replace h := jif_f hq202 h
        exact kb249   x3 _ _ _ h hP hD hS (lv_sub hl [0, 1] rfl)
      · replace h := jif_t hq202 h
        refine lv_iload hx hb dX11_ruleOf_205 (lv_at hl 2 rfl) ?_
        refine lv_bipush (v := 119) hx hb dX11_ruleOf_207 (by decide) ?_
        refine lv_icmp_eq (tgt := 249) hx hb dX11_ruleOf_209 (by decide) (fun hq209 => ?_) (fun hq209 => ?_)
        · replace h := jif_t hq209 h
          exact kb249   x3 _ _ _ h hP hD hS (lv_sub hl [0, 1] rfl)
        · replace h := jif_f hq209 h
          refine lv_iload hx hb dX11_ruleOf_212 (lv_at hl 2 rfl) ?_
          refine lv_bipush (v := 120) hx hb dX11_ruleOf_214 (by decide) ?_
          refine lv_icmp_eq (tgt := 249) hx hb dX11_ruleOf_216 (by decide) (fun hq216 => ?_) (fun hq216 => ?_)
          · replace h := jif_t hq216 h
            exact kb249   x3 _ _ _ h hP hD hS (lv_sub hl [0, 1] rfl)
          · replace h := jif_f hq216 h
            refine lv_iload hx hb dX11_ruleOf_219 (lv_at hl 2 rfl) ?_
            refine lv_bipush (v := 121) hx hb dX11_ruleOf_221 (by decide) ?_
            refine lv_icmp_eq (tgt := 249) hx hb dX11_ruleOf_223 (by decide) (fun hq223 => ?_) (fun hq223 => ?_)
            · replace h := jif_t hq223 h
              exact kb249   x3 _ _ _ h hP hD hS (lv_sub hl [0, 1] rfl)
            · replace h := jif_f hq223 h
              refine lv_iload hx hb dX11_ruleOf_226 (lv_at hl 3 rfl) ?_
              obtain ⟨r228, hf228, h⟩ := jbd h
              refine j_callSi (own := RX11) (As := [.int x5]) (rest := []) hx hb hml hown hts hK hA hP hD hS (jc_Model_isVowel l E x5 N hf228) gX11_ruleOf_X11_isVowel rfl ⟨rfl, rfl⟩ 1 (by decide +kernel) rfl rfl [] [0, 1, 2, 3] [0, 1, 2, 3] rfl rfl rfl rfl rfl rfl rfl hl.1 rfl rfl dX11_ruleOf_228 (fun H locs hP hD hS => ?_)
              replace hP : va_P E.1 vwCl (jw_Model_ruleOf E q_this q_tape q_taken q_strokeMany q_kind q_textMany q_strokes q_texts q_record q_itsEntry q_itsFirst q_text q_lengthAhead q_lengthBehind q_chord q_asked q_way q_wayStrokes q_wayMany q_best q_tried q_plan q_made q_trial q_two c_taped c_entries c_recorded c_translations c_length c_shift c_link c_chordMany c_lastMany c_bestMany c_bestStrokes c_triedMany c_triedStrokes c_planMany c_planStrokes c_madeMany c_madeStrokes c_isClear c_isPlanned a_text a_textMany a_texts) H := hP
              replace hD : va_D A (jw_Model_ruleOf E q_this q_tape q_taken q_strokeMany q_kind q_textMany q_strokes q_texts q_record q_itsEntry q_itsFirst q_text q_lengthAhead q_lengthBehind q_chord q_asked q_way q_wayStrokes q_wayMany q_best q_tried q_plan q_made q_trial q_two c_taped c_entries c_recorded c_translations c_length c_shift c_link c_chordMany c_lastMany c_bestMany c_bestStrokes c_triedMany c_triedStrokes c_planMany c_planStrokes c_madeMany c_madeStrokes c_isClear c_isPlanned a_text a_textMany a_texts) := hD
              refine lv_if_eq (tgt := 249) hx hb dX11_ruleOf_231 (by decide) (fun hq231 => ?_) (fun hq231 => ?_)
              · replace h := jif_t hq231 h
                exact kb249   x3 _ _ _ h hP hD hS (lv_sub hl [0, 1] rfl)
              · replace h := jif_f hq231 h
                refine lv_aload_n hx hb dX11_ruleOf_234 rfl (lv_at hl 0 rfl) ?_
                refine lv_iconst (v := 2) hx hb dX11_ruleOf_235 (by decide) ?_
                obtain ⟨r236, hf236, h⟩ := jbd h
                refine j_callVi (own := RX11) (As := [.int 2]) (rest := []) hx hb hml hown hts hK hA hP hD hS (jc_Model_last l E q_this q_tape q_taken q_strokeMany q_kind q_textMany q_strokes q_texts q_record q_itsEntry q_itsFirst q_text q_lengthAhead q_lengthBehind q_chord q_asked q_way q_wayStrokes q_wayMany q_best q_tried q_plan q_made q_trial q_two c_taped c_entries c_recorded c_translations c_length c_shift c_link c_chordMany c_lastMany c_bestMany c_bestStrokes c_triedMany c_triedStrokes c_planMany c_planStrokes c_madeMany c_madeStrokes c_isClear c_isPlanned a_text 2 N hf236) gX11_ruleOf_X11_last rfl ⟨rfl, rfl⟩ 1 (by decide +kernel) rfl rfl 0 11 rfl rfl [0, 1] [2, 3] [2, 3, 0, 1] rfl rfl rfl rfl rfl rfl rfl hl.1 rfl rfl dX11_ruleOf_236 (fun H locs hP hD hS => ?_)
                replace hP : va_P E.1 vwCl (jw_Model_ruleOf E q_this q_tape q_taken q_strokeMany q_kind q_textMany q_strokes q_texts q_record q_itsEntry q_itsFirst q_text q_lengthAhead q_lengthBehind q_chord q_asked q_way q_wayStrokes q_wayMany q_best q_tried q_plan q_made q_trial q_two c_taped c_entries c_recorded c_translations c_length c_shift c_link c_chordMany c_lastMany c_bestMany c_bestStrokes c_triedMany c_triedStrokes c_planMany c_planStrokes c_madeMany c_madeStrokes c_isClear c_isPlanned a_text a_textMany a_texts) H := hP
                replace hD : va_D A (jw_Model_ruleOf E q_this q_tape q_taken q_strokeMany q_kind q_textMany q_strokes q_texts q_record q_itsEntry q_itsFirst q_text q_lengthAhead q_lengthBehind q_chord q_asked q_way q_wayStrokes q_wayMany q_best q_tried q_plan q_made q_trial q_two c_taped c_entries c_recorded c_translations c_length c_shift c_link c_chordMany c_lastMany c_bestMany c_bestStrokes c_triedMany c_triedStrokes c_planMany c_planStrokes c_madeMany c_madeStrokes c_isClear c_isPlanned a_text a_textMany a_texts) := hD
                obtain ⟨r239, hf239, h⟩ := jbd h
                refine j_callSi (own := RX11) (As := [.int r236]) (rest := []) hx hb hml hown hts hK hA hP hD hS (jc_Model_isVowel l E r236 N hf239) gX11_ruleOf_X11_isVowel rfl ⟨rfl, rfl⟩ 1 (by decide +kernel) rfl rfl [] [0, 1, 2, 3] [0, 1, 2, 3] rfl rfl rfl rfl rfl rfl rfl hl.1 rfl rfl dX11_ruleOf_239 (fun H locs hP hD hS => ?_)
                replace hP : va_P E.1 vwCl (jw_Model_ruleOf E q_this q_tape q_taken q_strokeMany q_kind q_textMany q_strokes q_texts q_record q_itsEntry q_itsFirst q_text q_lengthAhead q_lengthBehind q_chord q_asked q_way q_wayStrokes q_wayMany q_best q_tried q_plan q_made q_trial q_two c_taped c_entries c_recorded c_translations c_length c_shift c_link c_chordMany c_lastMany c_bestMany c_bestStrokes c_triedMany c_triedStrokes c_planMany c_planStrokes c_madeMany c_madeStrokes c_isClear c_isPlanned a_text a_textMany a_texts) H := hP
                replace hD : va_D A (jw_Model_ruleOf E q_this q_tape q_taken q_strokeMany q_kind q_textMany q_strokes q_texts q_record q_itsEntry q_itsFirst q_text q_lengthAhead q_lengthBehind q_chord q_asked q_way q_wayStrokes q_wayMany q_best q_tried q_plan q_made q_trial q_two c_taped c_entries c_recorded c_translations c_length c_shift c_link c_chordMany c_lastMany c_bestMany c_bestStrokes c_triedMany c_triedStrokes c_planMany c_planStrokes c_madeMany c_madeStrokes c_isClear c_isPlanned a_text a_textMany a_texts) := hD
                refine lv_if_ne (tgt := 249) hx hb dX11_ruleOf_242 (by decide) (fun hq242 => ?_) (fun hq242 => ?_)
                · replace h := jif_f hq242 h
                  exact kb249   x3 _ _ _ h hP hD hS (lv_sub hl [0, 1] rfl)
                · replace h := jif_t hq242 h
                  refine lv_iconst (v := 1) hx hb dX11_ruleOf_245 (by decide) ?_
                  refine lv_goto (tgt := 250) hx hb dX11_ruleOf_246 (by decide) ?_
                  exact kb250   x3 1 _ _ _ h hP hD hS (lv_sub hl [0, 1] rfl)
  have kb147 : ∀ (x3 : Int32) (x4 : Int32) (x5 : Int32) (H : Heap) (locs : List Loc) (ls : Array Slot), jf_Model_ruleOf_b147 N c_length c_lastMany a_text x3 x4 x5 = some T → va_P E.1 vwCl (jw_Model_ruleOf E q_this q_tape q_taken q_strokeMany q_kind q_textMany q_strokes q_texts q_record q_itsEntry q_itsFirst q_text q_lengthAhead q_lengthBehind q_chord q_asked q_way q_wayStrokes q_wayMany q_best q_tried q_plan q_made q_trial q_two c_taped c_entries c_recorded c_translations c_length c_shift c_link c_chordMany c_lastMany c_bestMany c_bestStrokes c_triedMany c_triedStrokes c_planMany c_planStrokes c_madeMany c_madeStrokes c_isClear c_isPlanned a_text a_textMany a_texts) H → va_D A (jw_Model_ruleOf E q_this q_tape q_taken q_strokeMany q_kind q_textMany q_strokes q_texts q_record q_itsEntry q_itsFirst q_text q_lengthAhead q_lengthBehind q_chord q_asked q_way q_wayStrokes q_wayMany q_best q_tried q_plan q_made q_trial q_two c_taped c_entries c_recorded c_translations c_length c_shift c_link c_chordMany c_lastMany c_bestMany c_bestStrokes c_triedMany c_triedStrokes c_planMany c_planStrokes c_madeMany c_madeStrokes c_isClear c_isPlanned a_text a_textMany a_texts) → va_S A s.heap H locs → lv_has ls 9 [(0, .ref q_this), (3, .int x3), (4, .int x4), (5, .int x5)] → W p l e jr_Model_ruleOf s m args below meth c H locs 0 0 Q (F0 m 147 ls []) := by
    intro  x3 x4 x5 H locs ls h hP hD hS hl
    unfold jf_Model_ruleOf_b147 at h
    refine lv_iload hx hb dX11_ruleOf_147 (lv_at hl 2 rfl) ?_
    refine lv_bipush (v := 101) hx hb dX11_ruleOf_149 (by decide) ?_
    refine lv_icmp_ne (tgt := 189) hx hb dX11_ruleOf_151 (by decide) (fun hq151 => ?_) (fun hq151 => ?_)
    · replace h := jif_f hq151 h
      exact kb189   x3 x4 x5 _ _ _ h hP hD hS (lv_sub hl [0, 1, 2, 3] rfl)
    · replace h := jif_t hq151 h
      refine lv_aload_n hx hb dX11_ruleOf_154 rfl (lv_at hl 0 rfl) ?_
      refine va_get (D := E.1) (ci := 11) (v := .int c_lastMany) (C := RX11) (T := TX11) (N := 43) hx hb hts hin11 hown hK.1 hP 0 rfl rfl 22 (by decide) hk_156 (fun _ h9 => h9) rfl dX11_ruleOf_155 ?_
      refine lv_iconst (v := 2) hx hb dX11_ruleOf_158 (by decide) ?_
      refine lv_icmp_lt (tgt := 189) hx hb dX11_ruleOf_159 (by decide) (fun hq159 => ?_) (fun hq159 => ?_)
      · replace h := jif_t hq159 h
        exact kb189   x3 x4 x5 _ _ _ h hP hD hS (lv_sub hl [0, 1, 2, 3] rfl)
      · replace h := jif_f hq159 h
        refine lv_iload hx hb dX11_ruleOf_162 (lv_at hl 3 rfl) ?_
        refine lv_bipush (v := 101) hx hb dX11_ruleOf_164 (by decide) ?_
        refine lv_icmp_eq (tgt := 189) hx hb dX11_ruleOf_166 (by decide) (fun hq166 => ?_) (fun hq166 => ?_)
        · replace h := jif_t hq166 h
          exact kb189   x3 x4 x5 _ _ _ h hP hD hS (lv_sub hl [0, 1, 2, 3] rfl)
        · replace h := jif_f hq166 h
          refine lv_iload hx hb dX11_ruleOf_169 (lv_at hl 3 rfl) ?_
          refine lv_bipush (v := 111) hx hb dX11_ruleOf_171 (by decide) ?_
          refine lv_icmp_eq (tgt := 189) hx hb dX11_ruleOf_173 (by decide) (fun hq173 => ?_) (fun hq173 => ?_)
          · replace h := jif_t hq173 h
            exact kb189   x3 x4 x5 _ _ _ h hP hD hS (lv_sub hl [0, 1, 2, 3] rfl)
          · replace h := jif_f hq173 h
            refine lv_iload hx hb dX11_ruleOf_176 (lv_at hl 3 rfl) ?_
            refine lv_bipush (v := 121) hx hb dX11_ruleOf_178 (by decide) ?_
            refine lv_icmp_eq (tgt := 189) hx hb dX11_ruleOf_180 (by decide) (fun hq180 => ?_) (fun hq180 => ?_)
            · replace h := jif_t hq180 h
              exact kb189   x3 x4 x5 _ _ _ h hP hD hS (lv_sub hl [0, 1, 2, 3] rfl)
            · replace h := jif_f hq180 h
              refine lv_iload_n hx hb dX11_ruleOf_183 rfl (lv_at hl 1 rfl) ?_
              refine lv_if_eq (tgt := 189) hx hb dX11_ruleOf_184 (by decide) (fun hq184 => ?_) (fun hq184 => ?_)
              · replace h := jif_t hq184 h
                exact kb189   x3 x4 x5 _ _ _ h hP hD hS (lv_sub hl [0, 1, 2, 3] rfl)
              · replace h := jif_f hq184 h
                refine lv_iconst (v := 3) hx hb dX11_ruleOf_187 (by decide) ?_
                exact j_iret (u := 3) (rv := (fun T => T)) (wv := (fun _ => (jw_Model_ruleOf E q_this q_tape q_taken q_strokeMany q_kind q_textMany q_strokes q_texts q_record q_itsEntry q_itsFirst q_text q_lengthAhead q_lengthBehind q_chord q_asked q_way q_wayStrokes q_wayMany q_best q_tried q_plan q_made q_trial q_two c_taped c_entries c_recorded c_translations c_length c_shift c_link c_chordMany c_lastMany c_bestMany c_bestStrokes c_triedMany c_triedStrokes c_planMany c_planStrokes c_madeMany c_madeStrokes c_isClear c_isPlanned a_text a_textMany a_texts))) h hQ hx hb hr rfl hlocks hS hP hD dX11_ruleOf_188
  have kb134 : ∀ (x2 : Int32) (x3 : Int32) (x4 : Int32) (x5 : Int32) (z0 : Int32) (H : Heap) (locs : List Loc) (ls : Array Slot), jf_Model_ruleOf_b134 N c_length c_lastMany a_text x2 x3 x4 x5 z0 = some T → va_P E.1 vwCl (jw_Model_ruleOf E q_this q_tape q_taken q_strokeMany q_kind q_textMany q_strokes q_texts q_record q_itsEntry q_itsFirst q_text q_lengthAhead q_lengthBehind q_chord q_asked q_way q_wayStrokes q_wayMany q_best q_tried q_plan q_made q_trial q_two c_taped c_entries c_recorded c_translations c_length c_shift c_link c_chordMany c_lastMany c_bestMany c_bestStrokes c_triedMany c_triedStrokes c_planMany c_planStrokes c_madeMany c_madeStrokes c_isClear c_isPlanned a_text a_textMany a_texts) H → va_D A (jw_Model_ruleOf E q_this q_tape q_taken q_strokeMany q_kind q_textMany q_strokes q_texts q_record q_itsEntry q_itsFirst q_text q_lengthAhead q_lengthBehind q_chord q_asked q_way q_wayStrokes q_wayMany q_best q_tried q_plan q_made q_trial q_two c_taped c_entries c_recorded c_translations c_length c_shift c_link c_chordMany c_lastMany c_bestMany c_bestStrokes c_triedMany c_triedStrokes c_planMany c_planStrokes c_madeMany c_madeStrokes c_isClear c_isPlanned a_text a_textMany a_texts) → va_S A s.heap H locs → lv_has ls 9 [(0, .ref q_this), (2, .int x2), (3, .int x3), (4, .int x4), (5, .int x5)] → W p l e jr_Model_ruleOf s m args below meth c H locs 0 0 Q (F0 m 134 ls [.int z0]) := by
    intro  x2 x3 x4 x5 z0 H locs ls h hP hD hS hl
    unfold jf_Model_ruleOf_b134 at h
    refine lv_istore (lv' := [(6, .int z0), (0, .ref q_this), (2, .int x2), (3, .int x3), (4, .int x4), (5, .int x5)]) hx hb dX11_ruleOf_134 hl (by decide) rfl (fun ls hl => ?_)
    refine lv_iload_n hx hb dX11_ruleOf_136 rfl (lv_at hl 2 rfl) ?_
    refine lv_if_eq (tgt := 147) hx hb dX11_ruleOf_137 (by decide) (fun hq137 => ?_) (fun hq137 => ?_)
    · replace h := jif_t hq137 h
      exact kb147   x3 x4 x5 _ _ _ h hP hD hS (lv_sub hl [1, 3, 4, 5] rfl)
    · replace h := jif_f hq137 h
      refine lv_iload hx hb dX11_ruleOf_140 (lv_at hl 0 rfl) ?_
      refine lv_if_eq (tgt := 147) hx hb dX11_ruleOf_142 (by decide) (fun hq142 => ?_) (fun hq142 => ?_)
      · replace h := jif_t hq142 h
        exact kb147   x3 x4 x5 _ _ _ h hP hD hS (lv_sub hl [1, 3, 4, 5] rfl)
      · replace h := jif_f hq142 h
        refine lv_iconst (v := 2) hx hb dX11_ruleOf_145 (by decide) ?_
        exact j_iret (u := 2) (rv := (fun T => T)) (wv := (fun _ => (jw_Model_ruleOf E q_this q_tape q_taken q_strokeMany q_kind q_textMany q_strokes q_texts q_record q_itsEntry q_itsFirst q_text q_lengthAhead q_lengthBehind q_chord q_asked q_way q_wayStrokes q_wayMany q_best q_tried q_plan q_made q_trial q_two c_taped c_entries c_recorded c_translations c_length c_shift c_link c_chordMany c_lastMany c_bestMany c_bestStrokes c_triedMany c_triedStrokes c_planMany c_planStrokes c_madeMany c_madeStrokes c_isClear c_isPlanned a_text a_textMany a_texts))) h hQ hx hb hr rfl hlocks hS hP hD dX11_ruleOf_146
  have kb129 : ∀ (x2 : Int32) (x3 : Int32) (x4 : Int32) (x5 : Int32) (H : Heap) (locs : List Loc) (ls : Array Slot), jf_Model_ruleOf_b129 N c_length c_lastMany a_text x2 x3 x4 x5 = some T → va_P E.1 vwCl (jw_Model_ruleOf E q_this q_tape q_taken q_strokeMany q_kind q_textMany q_strokes q_texts q_record q_itsEntry q_itsFirst q_text q_lengthAhead q_lengthBehind q_chord q_asked q_way q_wayStrokes q_wayMany q_best q_tried q_plan q_made q_trial q_two c_taped c_entries c_recorded c_translations c_length c_shift c_link c_chordMany c_lastMany c_bestMany c_bestStrokes c_triedMany c_triedStrokes c_planMany c_planStrokes c_madeMany c_madeStrokes c_isClear c_isPlanned a_text a_textMany a_texts) H → va_D A (jw_Model_ruleOf E q_this q_tape q_taken q_strokeMany q_kind q_textMany q_strokes q_texts q_record q_itsEntry q_itsFirst q_text q_lengthAhead q_lengthBehind q_chord q_asked q_way q_wayStrokes q_wayMany q_best q_tried q_plan q_made q_trial q_two c_taped c_entries c_recorded c_translations c_length c_shift c_link c_chordMany c_lastMany c_bestMany c_bestStrokes c_triedMany c_triedStrokes c_planMany c_planStrokes c_madeMany c_madeStrokes c_isClear c_isPlanned a_text a_textMany a_texts) → va_S A s.heap H locs → lv_has ls 9 [(0, .ref q_this), (2, .int x2), (3, .int x3), (4, .int x4), (5, .int x5)] → W p l e jr_Model_ruleOf s m args below meth c H locs 0 0 Q (F0 m 129 ls []) := by
    intro  x2 x3 x4 x5 H locs ls h hP hD hS hl
    unfold jf_Model_ruleOf_b129 at h
    refine lv_iconst (v := 1) hx hb dX11_ruleOf_129 (by decide) ?_
    refine lv_goto (tgt := 134) hx hb dX11_ruleOf_130 (by decide) ?_
    exact kb134   x2 x3 x4 x5 1 _ _ _ h hP hD hS (lv_sub hl [0, 1, 2, 3, 4] rfl)
  have kb133 : ∀ (x2 : Int32) (x3 : Int32) (x4 : Int32) (x5 : Int32) (H : Heap) (locs : List Loc) (ls : Array Slot), jf_Model_ruleOf_b133 N c_length c_lastMany a_text x2 x3 x4 x5 = some T → va_P E.1 vwCl (jw_Model_ruleOf E q_this q_tape q_taken q_strokeMany q_kind q_textMany q_strokes q_texts q_record q_itsEntry q_itsFirst q_text q_lengthAhead q_lengthBehind q_chord q_asked q_way q_wayStrokes q_wayMany q_best q_tried q_plan q_made q_trial q_two c_taped c_entries c_recorded c_translations c_length c_shift c_link c_chordMany c_lastMany c_bestMany c_bestStrokes c_triedMany c_triedStrokes c_planMany c_planStrokes c_madeMany c_madeStrokes c_isClear c_isPlanned a_text a_textMany a_texts) H → va_D A (jw_Model_ruleOf E q_this q_tape q_taken q_strokeMany q_kind q_textMany q_strokes q_texts q_record q_itsEntry q_itsFirst q_text q_lengthAhead q_lengthBehind q_chord q_asked q_way q_wayStrokes q_wayMany q_best q_tried q_plan q_made q_trial q_two c_taped c_entries c_recorded c_translations c_length c_shift c_link c_chordMany c_lastMany c_bestMany c_bestStrokes c_triedMany c_triedStrokes c_planMany c_planStrokes c_madeMany c_madeStrokes c_isClear c_isPlanned a_text a_textMany a_texts) → va_S A s.heap H locs → lv_has ls 9 [(0, .ref q_this), (2, .int x2), (3, .int x3), (4, .int x4), (5, .int x5)] → W p l e jr_Model_ruleOf s m args below meth c H locs 0 0 Q (F0 m 133 ls []) := by
    intro  x2 x3 x4 x5 H locs ls h hP hD hS hl
    unfold jf_Model_ruleOf_b133 at h
    refine lv_iconst (v := 0) hx hb dX11_ruleOf_133 (by decide) ?_
    exact kb134   x2 x3 x4 x5 0 _ _ _ h hP hD hS (lv_sub hl [0, 1, 2, 3, 4] rfl)
  have kb87 : ∀ (x2 : Int32) (x3 : Int32) (x4 : Int32) (x5 : Int32) (H : Heap) (locs : List Loc) (ls : Array Slot), jf_Model_ruleOf_b87 N c_length c_lastMany a_text x2 x3 x4 x5 = some T → va_P E.1 vwCl (jw_Model_ruleOf E q_this q_tape q_taken q_strokeMany q_kind q_textMany q_strokes q_texts q_record q_itsEntry q_itsFirst q_text q_lengthAhead q_lengthBehind q_chord q_asked q_way q_wayStrokes q_wayMany q_best q_tried q_plan q_made q_trial q_two c_taped c_entries c_recorded c_translations c_length c_shift c_link c_chordMany c_lastMany c_bestMany c_bestStrokes c_triedMany c_triedStrokes c_planMany c_planStrokes c_madeMany c_madeStrokes c_isClear c_isPlanned a_text a_textMany a_texts) H → va_D A (jw_Model_ruleOf E q_this q_tape q_taken q_strokeMany q_kind q_textMany q_strokes q_texts q_record q_itsEntry q_itsFirst q_text q_lengthAhead q_lengthBehind q_chord q_asked q_way q_wayStrokes q_wayMany q_best q_tried q_plan q_made q_trial q_two c_taped c_entries c_recorded c_translations c_length c_shift c_link c_chordMany c_lastMany c_bestMany c_bestStrokes c_triedMany c_triedStrokes c_planMany c_planStrokes c_madeMany c_madeStrokes c_isClear c_isPlanned a_text a_textMany a_texts) → va_S A s.heap H locs → lv_has ls 9 [(0, .ref q_this), (2, .int x2), (3, .int x3), (4, .int x4), (5, .int x5)] → W p l e jr_Model_ruleOf s m args below meth c H locs 0 0 Q (F0 m 87 ls []) := by
    intro  x2 x3 x4 x5 H locs ls h hP hD hS hl
    unfold jf_Model_ruleOf_b87 at h
    refine lv_iload hx hb dX11_ruleOf_87 (lv_at hl 3 rfl) ?_
    refine lv_bipush (v := 115) hx hb dX11_ruleOf_89 (by decide) ?_
    refine lv_icmp_eq (tgt := 129) hx hb dX11_ruleOf_91 (by decide) (fun hq91 => ?_) (fun hq91 => ?_)
    · replace h := jif_t hq91 h
      exact kb129   x2 x3 x4 x5 _ _ _ h hP hD hS (lv_sub hl [0, 1, 2, 3, 4] rfl)
    · replace h := jif_f hq91 h
      refine lv_iload hx hb dX11_ruleOf_94 (lv_at hl 3 rfl) ?_
      refine lv_bipush (v := 120) hx hb dX11_ruleOf_96 (by decide) ?_
      refine lv_icmp_eq (tgt := 129) hx hb dX11_ruleOf_98 (by decide) (fun hq98 => ?_) (fun hq98 => ?_)
      · replace h := jif_t hq98 h
        exact kb129   x2 x3 x4 x5 _ _ _ h hP hD hS (lv_sub hl [0, 1, 2, 3, 4] rfl)
      · replace h := jif_f hq98 h
        refine lv_iload hx hb dX11_ruleOf_101 (lv_at hl 3 rfl) ?_
        refine lv_bipush (v := 122) hx hb dX11_ruleOf_103 (by decide) ?_
        refine lv_icmp_eq (tgt := 129) hx hb dX11_ruleOf_105 (by decide) (fun hq105 => ?_) (fun hq105 => ?_)
        · replace h := jif_t hq105 h
          exact kb129   x2 x3 x4 x5 _ _ _ h hP hD hS (lv_sub hl [0, 1, 2, 3, 4] rfl)
        · replace h := jif_f hq105 h
          refine lv_iload hx hb dX11_ruleOf_108 (lv_at hl 3 rfl) ?_
          refine lv_bipush (v := 104) hx hb dX11_ruleOf_110 (by decide) ?_
          refine lv_icmp_ne (tgt := 133) hx hb dX11_ruleOf_112 (by decide) (fun hq112 => ?_) (fun hq112 => ?_)
          · replace h := jif_f hq112 h
            exact kb133   x2 x3 x4 x5 _ _ _ h hP hD hS (lv_sub hl [0, 1, 2, 3, 4] rfl)
          · replace h := jif_t hq112 h
            refine lv_iload hx hb dX11_ruleOf_115 (lv_at hl 4 rfl) ?_
            refine lv_bipush (v := 99) hx hb dX11_ruleOf_117 (by decide) ?_
            refine lv_icmp_eq (tgt := 129) hx hb dX11_ruleOf_119 (by decide) (fun hq119 => ?_) (fun hq119 => ?_)
            · replace h := jif_t hq119 h
              exact kb129   x2 x3 x4 x5 _ _ _ h hP hD hS (lv_sub hl [0, 1, 2, 3, 4] rfl)
            · replace h := jif_f hq119 h
              refine lv_iload hx hb dX11_ruleOf_122 (lv_at hl 4 rfl) ?_
              refine lv_bipush (v := 115) hx hb dX11_ruleOf_124 (by decide) ?_
              refine lv_icmp_ne (tgt := 133) hx hb dX11_ruleOf_126 (by decide) (fun hq126 => ?_) (fun hq126 => ?_)
              · replace h := jif_f hq126 h
                exact kb133   x2 x3 x4 x5 _ _ _ h hP hD hS (lv_sub hl [0, 1, 2, 3, 4] rfl)
              · replace h := jif_t hq126 h
                exact kb129   x2 x3 x4 x5 _ _ _ h hP hD hS (lv_sub hl [0, 1, 2, 3, 4] rfl)
  have kb26 : ∀ (z0 : Int32) (H : Heap) (locs : List Loc) (ls : Array Slot), jf_Model_ruleOf_b26 N x1 c_length c_lastMany a_text a_texts z0 = some T → va_P E.1 vwCl (jw_Model_ruleOf E q_this q_tape q_taken q_strokeMany q_kind q_textMany q_strokes q_texts q_record q_itsEntry q_itsFirst q_text q_lengthAhead q_lengthBehind q_chord q_asked q_way q_wayStrokes q_wayMany q_best q_tried q_plan q_made q_trial q_two c_taped c_entries c_recorded c_translations c_length c_shift c_link c_chordMany c_lastMany c_bestMany c_bestStrokes c_triedMany c_triedStrokes c_planMany c_planStrokes c_madeMany c_madeStrokes c_isClear c_isPlanned a_text a_textMany a_texts) H → va_D A (jw_Model_ruleOf E q_this q_tape q_taken q_strokeMany q_kind q_textMany q_strokes q_texts q_record q_itsEntry q_itsFirst q_text q_lengthAhead q_lengthBehind q_chord q_asked q_way q_wayStrokes q_wayMany q_best q_tried q_plan q_made q_trial q_two c_taped c_entries c_recorded c_translations c_length c_shift c_link c_chordMany c_lastMany c_bestMany c_bestStrokes c_triedMany c_triedStrokes c_planMany c_planStrokes c_madeMany c_madeStrokes c_isClear c_isPlanned a_text a_textMany a_texts) → va_S A s.heap H locs → lv_has ls 9 [(0, .ref q_this), (1, .int x1)] → W p l e jr_Model_ruleOf s m args below meth c H locs 0 0 Q (F0 m 26 ls [.int z0]) := by
    intro  z0 H locs ls h hP hD hS hl
    unfold jf_Model_ruleOf_b26 at h
    refine lv_istore_n (lv' := [(2, .int z0), (0, .ref q_this), (1, .int x1)]) hx hb dX11_ruleOf_26 rfl hl (by decide) rfl (fun ls hl => ?_)
    refine lv_aload_n hx hb dX11_ruleOf_27 rfl (lv_at hl 1 rfl) ?_
    refine lv_iload_n hx hb dX11_ruleOf_28 rfl (lv_at hl 2 rfl) ?_
    refine lv_iconst (v := 0) hx hb dX11_ruleOf_29 (by decide) ?_
    obtain ⟨r30, hf30, h⟩ := jbd h
    refine j_callVi (own := RX11) (As := [.int x1, .int 0]) (rest := []) hx hb hml hown hts hK hA hP hD hS (jc_Model_byteOf l E q_this q_tape q_taken q_strokeMany q_kind q_textMany q_strokes q_texts q_record q_itsEntry q_itsFirst q_text q_lengthAhead q_lengthBehind q_chord q_asked q_way q_wayStrokes q_wayMany q_best q_tried q_plan q_made q_trial q_two c_taped c_entries c_recorded c_translations c_length c_shift c_link c_chordMany c_lastMany c_bestMany c_bestStrokes c_triedMany c_triedStrokes c_planMany c_planStrokes c_madeMany c_madeStrokes c_isClear c_isPlanned a_texts x1 0 N hf30) gX11_ruleOf_X11_byteOf rfl ⟨rfl, rfl⟩ 2 (by decide +kernel) rfl rfl 0 11 rfl rfl [0, 3] [1, 2] [2, 0, 1, 3] rfl rfl rfl rfl rfl rfl rfl hl.1 rfl rfl dX11_ruleOf_30 (fun H locs hP hD hS => ?_)
    replace hP : va_P E.1 vwCl (jw_Model_ruleOf E q_this q_tape q_taken q_strokeMany q_kind q_textMany q_strokes q_texts q_record q_itsEntry q_itsFirst q_text q_lengthAhead q_lengthBehind q_chord q_asked q_way q_wayStrokes q_wayMany q_best q_tried q_plan q_made q_trial q_two c_taped c_entries c_recorded c_translations c_length c_shift c_link c_chordMany c_lastMany c_bestMany c_bestStrokes c_triedMany c_triedStrokes c_planMany c_planStrokes c_madeMany c_madeStrokes c_isClear c_isPlanned a_text a_textMany a_texts) H := hP
    replace hD : va_D A (jw_Model_ruleOf E q_this q_tape q_taken q_strokeMany q_kind q_textMany q_strokes q_texts q_record q_itsEntry q_itsFirst q_text q_lengthAhead q_lengthBehind q_chord q_asked q_way q_wayStrokes q_wayMany q_best q_tried q_plan q_made q_trial q_two c_taped c_entries c_recorded c_translations c_length c_shift c_link c_chordMany c_lastMany c_bestMany c_bestStrokes c_triedMany c_triedStrokes c_planMany c_planStrokes c_madeMany c_madeStrokes c_isClear c_isPlanned a_text a_textMany a_texts) := hD
    obtain ⟨r33, hf33, h⟩ := jbd h
    refine j_callSi (own := RX11) (As := [.int r30]) (rest := []) hx hb hml hown hts hK hA hP hD hS (jc_Model_isVowel l E r30 N hf33) gX11_ruleOf_X11_isVowel rfl ⟨rfl, rfl⟩ 1 (by decide +kernel) rfl rfl [] [0, 1, 2, 3] [0, 1, 2, 3] rfl rfl rfl rfl rfl rfl rfl hl.1 rfl rfl dX11_ruleOf_33 (fun H locs hP hD hS => ?_)
    replace hP : va_P E.1 vwCl (jw_Model_ruleOf E q_this q_tape q_taken q_strokeMany q_kind q_textMany q_strokes q_texts q_record q_itsEntry q_itsFirst q_text q_lengthAhead q_lengthBehind q_chord q_asked q_way q_wayStrokes q_wayMany q_best q_tried q_plan q_made q_trial q_two c_taped c_entries c_recorded c_translations c_length c_shift c_link c_chordMany c_lastMany c_bestMany c_bestStrokes c_triedMany c_triedStrokes c_planMany c_planStrokes c_madeMany c_madeStrokes c_isClear c_isPlanned a_text a_textMany a_texts) H := hP
    replace hD : va_D A (jw_Model_ruleOf E q_this q_tape q_taken q_strokeMany q_kind q_textMany q_strokes q_texts q_record q_itsEntry q_itsFirst q_text q_lengthAhead q_lengthBehind q_chord q_asked q_way q_wayStrokes q_wayMany q_best q_tried q_plan q_made q_trial q_two c_taped c_entries c_recorded c_translations c_length c_shift c_link c_chordMany c_lastMany c_bestMany c_bestStrokes c_triedMany c_triedStrokes c_planMany c_planStrokes c_madeMany c_madeStrokes c_isClear c_isPlanned a_text a_textMany a_texts) := hD
    refine lv_istore_n (lv' := [(3, .int r33), (2, .int z0), (0, .ref q_this), (1, .int x1)]) hx hb dX11_ruleOf_36 rfl hl (by decide) rfl (fun ls hl => ?_)
    refine lv_aload_n hx hb dX11_ruleOf_37 rfl (lv_at hl 2 rfl) ?_
    refine lv_iconst (v := 0) hx hb dX11_ruleOf_38 (by decide) ?_
    obtain ⟨r39, hf39, h⟩ := jbd h
    refine j_callVi (own := RX11) (As := [.int 0]) (rest := []) hx hb hml hown hts hK hA hP hD hS (jc_Model_last l E q_this q_tape q_taken q_strokeMany q_kind q_textMany q_strokes q_texts q_record q_itsEntry q_itsFirst q_text q_lengthAhead q_lengthBehind q_chord q_asked q_way q_wayStrokes q_wayMany q_best q_tried q_plan q_made q_trial q_two c_taped c_entries c_recorded c_translations c_length c_shift c_link c_chordMany c_lastMany c_bestMany c_bestStrokes c_triedMany c_triedStrokes c_planMany c_planStrokes c_madeMany c_madeStrokes c_isClear c_isPlanned a_text 0 N hf39) gX11_ruleOf_X11_last rfl ⟨rfl, rfl⟩ 1 (by decide +kernel) rfl rfl 0 11 rfl rfl [0, 1] [2, 3] [2, 3, 0, 1] rfl rfl rfl rfl rfl rfl rfl hl.1 rfl rfl dX11_ruleOf_39 (fun H locs hP hD hS => ?_)
    replace hP : va_P E.1 vwCl (jw_Model_ruleOf E q_this q_tape q_taken q_strokeMany q_kind q_textMany q_strokes q_texts q_record q_itsEntry q_itsFirst q_text q_lengthAhead q_lengthBehind q_chord q_asked q_way q_wayStrokes q_wayMany q_best q_tried q_plan q_made q_trial q_two c_taped c_entries c_recorded c_translations c_length c_shift c_link c_chordMany c_lastMany c_bestMany c_bestStrokes c_triedMany c_triedStrokes c_planMany c_planStrokes c_madeMany c_madeStrokes c_isClear c_isPlanned a_text a_textMany a_texts) H := hP
    replace hD : va_D A (jw_Model_ruleOf E q_this q_tape q_taken q_strokeMany q_kind q_textMany q_strokes q_texts q_record q_itsEntry q_itsFirst q_text q_lengthAhead q_lengthBehind q_chord q_asked q_way q_wayStrokes q_wayMany q_best q_tried q_plan q_made q_trial q_two c_taped c_entries c_recorded c_translations c_length c_shift c_link c_chordMany c_lastMany c_bestMany c_bestStrokes c_triedMany c_triedStrokes c_planMany c_planStrokes c_madeMany c_madeStrokes c_isClear c_isPlanned a_text a_textMany a_texts) := hD
    refine lv_istore (lv' := [(4, .int r39), (3, .int r33), (2, .int z0), (0, .ref q_this), (1, .int x1)]) hx hb dX11_ruleOf_42 hl (by decide) rfl (fun ls hl => ?_)
    refine lv_aload_n hx hb dX11_ruleOf_44 rfl (lv_at hl 3 rfl) ?_
    refine lv_iconst (v := 1) hx hb dX11_ruleOf_45 (by decide) ?_
    obtain ⟨r46, hf46, h⟩ := jbd h
    refine j_callVi (own := RX11) (As := [.int 1]) (rest := []) hx hb hml hown hts hK hA hP hD hS (jc_Model_last l E q_this q_tape q_taken q_strokeMany q_kind q_textMany q_strokes q_texts q_record q_itsEntry q_itsFirst q_text q_lengthAhead q_lengthBehind q_chord q_asked q_way q_wayStrokes q_wayMany q_best q_tried q_plan q_made q_trial q_two c_taped c_entries c_recorded c_translations c_length c_shift c_link c_chordMany c_lastMany c_bestMany c_bestStrokes c_triedMany c_triedStrokes c_planMany c_planStrokes c_madeMany c_madeStrokes c_isClear c_isPlanned a_text 1 N hf46) gX11_ruleOf_X11_last rfl ⟨rfl, rfl⟩ 1 (by decide +kernel) rfl rfl 0 11 rfl rfl [0, 1] [2, 3] [2, 3, 0, 1] rfl rfl rfl rfl rfl rfl rfl hl.1 rfl rfl dX11_ruleOf_46 (fun H locs hP hD hS => ?_)
    replace hP : va_P E.1 vwCl (jw_Model_ruleOf E q_this q_tape q_taken q_strokeMany q_kind q_textMany q_strokes q_texts q_record q_itsEntry q_itsFirst q_text q_lengthAhead q_lengthBehind q_chord q_asked q_way q_wayStrokes q_wayMany q_best q_tried q_plan q_made q_trial q_two c_taped c_entries c_recorded c_translations c_length c_shift c_link c_chordMany c_lastMany c_bestMany c_bestStrokes c_triedMany c_triedStrokes c_planMany c_planStrokes c_madeMany c_madeStrokes c_isClear c_isPlanned a_text a_textMany a_texts) H := hP
    replace hD : va_D A (jw_Model_ruleOf E q_this q_tape q_taken q_strokeMany q_kind q_textMany q_strokes q_texts q_record q_itsEntry q_itsFirst q_text q_lengthAhead q_lengthBehind q_chord q_asked q_way q_wayStrokes q_wayMany q_best q_tried q_plan q_made q_trial q_two c_taped c_entries c_recorded c_translations c_length c_shift c_link c_chordMany c_lastMany c_bestMany c_bestStrokes c_triedMany c_triedStrokes c_planMany c_planStrokes c_madeMany c_madeStrokes c_isClear c_isPlanned a_text a_textMany a_texts) := hD
    refine lv_istore (lv' := [(5, .int r46), (4, .int r39), (3, .int r33), (2, .int z0), (0, .ref q_this), (1, .int x1)]) hx hb dX11_ruleOf_49 hl (by decide) rfl (fun ls hl => ?_)
    refine lv_aload_n hx hb dX11_ruleOf_51 rfl (lv_at hl 4 rfl) ?_
    refine va_get (D := E.1) (ci := 11) (v := .int c_lastMany) (C := RX11) (T := TX11) (N := 43) hx hb hts hin11 hown hK.1 hP 0 rfl rfl 22 (by decide) hk_156 (fun _ h9 => h9) rfl dX11_ruleOf_52 ?_
    refine lv_iconst (v := 2) hx hb dX11_ruleOf_55 (by decide) ?_
    refine lv_icmp_lt (tgt := 87) hx hb dX11_ruleOf_56 (by decide) (fun hq56 => ?_) (fun hq56 => ?_)
    · replace h := jif_t hq56 h
      exact kb87   z0 r33 r39 r46 _ _ _ h hP hD hS (lv_sub hl [4, 3, 2, 1, 0] rfl)
    · replace h := jif_f hq56 h
      refine lv_iload hx hb dX11_ruleOf_59 (lv_at hl 1 rfl) ?_
      refine lv_bipush (v := 121) hx hb dX11_ruleOf_61 (by decide) ?_
      refine lv_icmp_ne (tgt := 87) hx hb dX11_ruleOf_63 (by decide) (fun hq63 => ?_) (fun hq63 => ?_)
      · replace h := jif_f hq63 h
        exact kb87   z0 r33 r39 r46 _ _ _ h hP hD hS (lv_sub hl [4, 3, 2, 1, 0] rfl)
      · replace h := jif_t hq63 h
        refine lv_iload hx hb dX11_ruleOf_66 (lv_at hl 0 rfl) ?_
        obtain ⟨r68, hf68, h⟩ := jbd h
        refine j_callSi (own := RX11) (As := [.int r46]) (rest := []) hx hb hml hown hts hK hA hP hD hS (jc_Model_isVowel l E r46 N hf68) gX11_ruleOf_X11_isVowel rfl ⟨rfl, rfl⟩ 1 (by decide +kernel) rfl rfl [] [0, 1, 2, 3] [0, 1, 2, 3] rfl rfl rfl rfl rfl rfl rfl hl.1 rfl rfl dX11_ruleOf_68 (fun H locs hP hD hS => ?_)
        replace hP : va_P E.1 vwCl (jw_Model_ruleOf E q_this q_tape q_taken q_strokeMany q_kind q_textMany q_strokes q_texts q_record q_itsEntry q_itsFirst q_text q_lengthAhead q_lengthBehind q_chord q_asked q_way q_wayStrokes q_wayMany q_best q_tried q_plan q_made q_trial q_two c_taped c_entries c_recorded c_translations c_length c_shift c_link c_chordMany c_lastMany c_bestMany c_bestStrokes c_triedMany c_triedStrokes c_planMany c_planStrokes c_madeMany c_madeStrokes c_isClear c_isPlanned a_text a_textMany a_texts) H := hP
        replace hD : va_D A (jw_Model_ruleOf E q_this q_tape q_taken q_strokeMany q_kind q_textMany q_strokes q_texts q_record q_itsEntry q_itsFirst q_text q_lengthAhead q_lengthBehind q_chord q_asked q_way q_wayStrokes q_wayMany q_best q_tried q_plan q_made q_trial q_two c_taped c_entries c_recorded c_translations c_length c_shift c_link c_chordMany c_lastMany c_bestMany c_bestStrokes c_triedMany c_triedStrokes c_planMany c_planStrokes c_madeMany c_madeStrokes c_isClear c_isPlanned a_text a_textMany a_texts) := hD
        refine lv_if_ne (tgt := 87) hx hb dX11_ruleOf_71 (by decide) (fun hq71 => ?_) (fun hq71 => ?_)
        · replace h := jif_f hq71 h
          exact kb87   z0 r33 r39 r46 _ _ _ h hP hD hS (lv_sub hl [4, 3, 2, 1, 0] rfl)
        · replace h := jif_t hq71 h
          refine lv_aload_n hx hb dX11_ruleOf_74 rfl (lv_at hl 4 rfl) ?_
          refine lv_iload_n hx hb dX11_ruleOf_75 rfl (lv_at hl 5 rfl) ?_
          refine lv_iconst (v := 0) hx hb dX11_ruleOf_76 (by decide) ?_
          obtain ⟨r77, hf77, h⟩ := jbd h
          refine j_callVi (own := RX11) (As := [.int x1, .int 0]) (rest := []) hx hb hml hown hts hK hA hP hD hS (jc_Model_byteOf l E q_this q_tape q_taken q_strokeMany q_kind q_textMany q_strokes q_texts q_record q_itsEntry q_itsFirst q_text q_lengthAhead q_lengthBehind q_chord q_asked q_way q_wayStrokes q_wayMany q_best q_tried q_plan q_made q_trial q_two c_taped c_entries c_recorded c_translations c_length c_shift c_link c_chordMany c_lastMany c_bestMany c_bestStrokes c_triedMany c_triedStrokes c_planMany c_planStrokes c_madeMany c_madeStrokes c_isClear c_isPlanned a_texts x1 0 N hf77) gX11_ruleOf_X11_byteOf rfl ⟨rfl, rfl⟩ 2 (by decide +kernel) rfl rfl 0 11 rfl rfl [0, 3] [1, 2] [2, 0, 1, 3] rfl rfl rfl rfl rfl rfl rfl hl.1 rfl rfl dX11_ruleOf_77 (fun H locs hP hD hS => ?_)
          replace hP : va_P E.1 vwCl (jw_Model_ruleOf E q_this q_tape q_taken q_strokeMany q_kind q_textMany q_strokes q_texts q_record q_itsEntry q_itsFirst q_text q_lengthAhead q_lengthBehind q_chord q_asked q_way q_wayStrokes q_wayMany q_best q_tried q_plan q_made q_trial q_two c_taped c_entries c_recorded c_translations c_length c_shift c_link c_chordMany c_lastMany c_bestMany c_bestStrokes c_triedMany c_triedStrokes c_planMany c_planStrokes c_madeMany c_madeStrokes c_isClear c_isPlanned a_text a_textMany a_texts) H := hP
          replace hD : va_D A (jw_Model_ruleOf E q_this q_tape q_taken q_strokeMany q_kind q_textMany q_strokes q_texts q_record q_itsEntry q_itsFirst q_text q_lengthAhead q_lengthBehind q_chord q_asked q_way q_wayStrokes q_wayMany q_best q_tried q_plan q_made q_trial q_two c_taped c_entries c_recorded c_translations c_length c_shift c_link c_chordMany c_lastMany c_bestMany c_bestStrokes c_triedMany c_triedStrokes c_planMany c_planStrokes c_madeMany c_madeStrokes c_isClear c_isPlanned a_text a_textMany a_texts) := hD
          refine lv_bipush (v := 105) hx hb dX11_ruleOf_80 (by decide) ?_
          refine lv_icmp_eq (tgt := 87) hx hb dX11_ruleOf_82 (by decide) (fun hq82 => ?_) (fun hq82 => ?_)
          · replace h := jif_t hq82 h
            exact kb87   z0 r33 r39 r46 _ _ _ h hP hD hS (lv_sub hl [4, 3, 2, 1, 0] rfl)
          · replace h := jif_f hq82 h
            refine lv_iconst (v := 1) hx hb dX11_ruleOf_85 (by decide) ?_
            exact j_iret (u := 1) (rv := (fun T => T)) (wv := (fun _ => (jw_Model_ruleOf E q_this q_tape q_taken q_strokeMany q_kind q_textMany q_strokes q_texts q_record q_itsEntry q_itsFirst q_text q_lengthAhead q_lengthBehind q_chord q_asked q_way q_wayStrokes q_wayMany q_best q_tried q_plan q_made q_trial q_two c_taped c_entries c_recorded c_translations c_length c_shift c_link c_chordMany c_lastMany c_bestMany c_bestStrokes c_triedMany c_triedStrokes c_planMany c_planStrokes c_madeMany c_madeStrokes c_isClear c_isPlanned a_text a_textMany a_texts))) h hQ hx hb hr rfl hlocks hS hP hD dX11_ruleOf_86
  have kb25 : ∀ (H : Heap) (locs : List Loc) (ls : Array Slot), jf_Model_ruleOf_b25 N x1 c_length c_lastMany a_text a_texts = some T → va_P E.1 vwCl (jw_Model_ruleOf E q_this q_tape q_taken q_strokeMany q_kind q_textMany q_strokes q_texts q_record q_itsEntry q_itsFirst q_text q_lengthAhead q_lengthBehind q_chord q_asked q_way q_wayStrokes q_wayMany q_best q_tried q_plan q_made q_trial q_two c_taped c_entries c_recorded c_translations c_length c_shift c_link c_chordMany c_lastMany c_bestMany c_bestStrokes c_triedMany c_triedStrokes c_planMany c_planStrokes c_madeMany c_madeStrokes c_isClear c_isPlanned a_text a_textMany a_texts) H → va_D A (jw_Model_ruleOf E q_this q_tape q_taken q_strokeMany q_kind q_textMany q_strokes q_texts q_record q_itsEntry q_itsFirst q_text q_lengthAhead q_lengthBehind q_chord q_asked q_way q_wayStrokes q_wayMany q_best q_tried q_plan q_made q_trial q_two c_taped c_entries c_recorded c_translations c_length c_shift c_link c_chordMany c_lastMany c_bestMany c_bestStrokes c_triedMany c_triedStrokes c_planMany c_planStrokes c_madeMany c_madeStrokes c_isClear c_isPlanned a_text a_textMany a_texts) → va_S A s.heap H locs → lv_has ls 9 [(0, .ref q_this), (1, .int x1)] → W p l e jr_Model_ruleOf s m args below meth c H locs 0 0 Q (F0 m 25 ls []) := by
    intro   H locs ls h hP hD hS hl
    unfold jf_Model_ruleOf_b25 at h
    refine lv_iconst (v := 0) hx hb dX11_ruleOf_25 (by decide) ?_
    exact kb26   0 _ _ _ h hP hD hS (lv_sub hl [0, 1] rfl)
  unfold jf_Model_ruleOf at h
  refine lv_aload_n hx hb dX11_ruleOf_0 rfl (lv_at hl 0 rfl) ?_
  refine va_get (D := E.1) (ci := 11) (v := .ref q_textMany) (C := RX11) (T := TX11) (N := 43) hx hb hts hin11 hown hK.1 hP 0 rfl rfl 6 (by decide) hk_23 (fun _ h9 => h9) rfl dX11_ruleOf_1 ?_
  refine lv_iload_n hx hb dX11_ruleOf_4 rfl (lv_at hl 1 rfl) ?_
  obtain ⟨g5, h⟩ := jga_e h
  refine va_iald hx hb hK.1 hP 2 1 rfl rfl g5 dX11_ruleOf_5 ?_
  refine lv_iconst (v := 1) hx hb dX11_ruleOf_6 (by decide) ?_
  refine lv_icmp_ne (tgt := 25) hx hb dX11_ruleOf_7 (by decide) (fun hq7 => ?_) (fun hq7 => ?_)
  · replace h := jif_f hq7 h
    exact kb25    _ _ _ h hP hD hS (lv_sub hl [0, 1] rfl)
  · replace h := jif_t hq7 h
    refine lv_aload_n hx hb dX11_ruleOf_10 rfl (lv_at hl 0 rfl) ?_
    refine lv_iload_n hx hb dX11_ruleOf_11 rfl (lv_at hl 1 rfl) ?_
    refine lv_iconst (v := 0) hx hb dX11_ruleOf_12 (by decide) ?_
    obtain ⟨r13, hf13, h⟩ := jbd h
    refine j_callVi (own := RX11) (As := [.int x1, .int 0]) (rest := []) hx hb hml hown hts hK hA hP hD hS (jc_Model_byteOf l E q_this q_tape q_taken q_strokeMany q_kind q_textMany q_strokes q_texts q_record q_itsEntry q_itsFirst q_text q_lengthAhead q_lengthBehind q_chord q_asked q_way q_wayStrokes q_wayMany q_best q_tried q_plan q_made q_trial q_two c_taped c_entries c_recorded c_translations c_length c_shift c_link c_chordMany c_lastMany c_bestMany c_bestStrokes c_triedMany c_triedStrokes c_planMany c_planStrokes c_madeMany c_madeStrokes c_isClear c_isPlanned a_texts x1 0 N hf13) gX11_ruleOf_X11_byteOf rfl ⟨rfl, rfl⟩ 2 (by decide +kernel) rfl rfl 0 11 rfl rfl [0, 3] [1, 2] [2, 0, 1, 3] rfl rfl rfl rfl rfl rfl rfl hl.1 rfl rfl dX11_ruleOf_13 (fun H locs hP hD hS => ?_)
    replace hP : va_P E.1 vwCl (jw_Model_ruleOf E q_this q_tape q_taken q_strokeMany q_kind q_textMany q_strokes q_texts q_record q_itsEntry q_itsFirst q_text q_lengthAhead q_lengthBehind q_chord q_asked q_way q_wayStrokes q_wayMany q_best q_tried q_plan q_made q_trial q_two c_taped c_entries c_recorded c_translations c_length c_shift c_link c_chordMany c_lastMany c_bestMany c_bestStrokes c_triedMany c_triedStrokes c_planMany c_planStrokes c_madeMany c_madeStrokes c_isClear c_isPlanned a_text a_textMany a_texts) H := hP
    replace hD : va_D A (jw_Model_ruleOf E q_this q_tape q_taken q_strokeMany q_kind q_textMany q_strokes q_texts q_record q_itsEntry q_itsFirst q_text q_lengthAhead q_lengthBehind q_chord q_asked q_way q_wayStrokes q_wayMany q_best q_tried q_plan q_made q_trial q_two c_taped c_entries c_recorded c_translations c_length c_shift c_link c_chordMany c_lastMany c_bestMany c_bestStrokes c_triedMany c_triedStrokes c_planMany c_planStrokes c_madeMany c_madeStrokes c_isClear c_isPlanned a_text a_textMany a_texts) := hD
    refine lv_bipush (v := 115) hx hb dX11_ruleOf_16 (by decide) ?_
    refine lv_icmp_ne (tgt := 25) hx hb dX11_ruleOf_18 (by decide) (fun hq18 => ?_) (fun hq18 => ?_)
    · replace h := jif_f hq18 h
      exact kb25    _ _ _ h hP hD hS (lv_sub hl [0, 1] rfl)
    · replace h := jif_t hq18 h
      refine lv_iconst (v := 1) hx hb dX11_ruleOf_21 (by decide) ?_
      refine lv_goto (tgt := 26) hx hb dX11_ruleOf_22 (by decide) ?_
      exact kb26   1 _ _ _ h hP hD hS (lv_sub hl [0, 1] rfl)
abbrev jw_Model_joins (E : jE) (q_this q_tape q_taken q_strokeMany q_kind q_textMany q_strokes q_texts q_record q_itsEntry q_itsFirst q_text q_lengthAhead q_lengthBehind q_chord q_asked q_way q_wayStrokes q_wayMany q_best q_tried q_plan q_made q_trial q_two : Nat) (c_taped : Int32) (c_entries : Int32) (c_recorded : Int32) (c_translations : Int32) (c_length : Int32) (c_shift : Int32) (c_link : Int32) (c_chordMany : Int32) (c_lastMany : Int32) (c_bestMany : Int32) (c_bestStrokes : Int32) (c_triedMany : Int32) (c_triedStrokes : Int32) (c_planMany : Int32) (c_planStrokes : Int32) (c_madeMany : Int32) (c_madeStrokes : Int32) (c_isClear : Int32) (c_isPlanned : Int32) (a_text : (Nat → Int32)) (a_textMany : (Nat → Int32)) (a_texts : (Nat → Int32)) : va_W := [(q_this, .inr (11, [.ref q_tape, .ref q_taken, .int c_taped, .int c_entries, .ref q_strokeMany, .ref q_kind, .ref q_textMany, .ref q_strokes, .ref q_texts, .ref q_record, .int c_recorded, .ref q_itsEntry, .ref q_itsFirst, .int c_translations, .ref q_text, .ref q_lengthAhead, .ref q_lengthBehind, .int c_length, .int c_shift, .int c_link, .ref q_chord, .int c_chordMany, .int c_lastMany, .ref q_asked, .ref q_way, .ref q_wayStrokes, .ref q_wayMany, .ref q_best, .ref q_tried, .ref q_plan, .ref q_made, .int c_bestMany, .int c_bestStrokes, .int c_triedMany, .int c_triedStrokes, .int c_planMany, .int c_planStrokes, .int c_madeMany, .int c_madeStrokes, .int c_isClear, .int c_isPlanned, .ref q_trial, .ref q_two])), (q_text, .inl (E.2.1, 8000, .inl a_text)), (q_textMany, .inl (E.2.2.1, 61, .inl a_textMany)), (q_texts, .inl (E.2.1, 976, .inl a_texts))]
def jr_Model_joins : Room := { frames := 3, cells := 0, slots := 0, locals := 69 }
set_option maxHeartbeats 4000000 in
set_option maxRecDepth 100000 in
theorem jc_Model_joins (l : Launch) (E : jE) (q_this q_tape q_taken q_strokeMany q_kind q_textMany q_strokes q_texts q_record q_itsEntry q_itsFirst q_text q_lengthAhead q_lengthBehind q_chord q_asked q_way q_wayStrokes q_wayMany q_best q_tried q_plan q_made q_trial q_two : Nat) (c_taped : Int32) (c_entries : Int32) (c_recorded : Int32) (c_translations : Int32) (c_length : Int32) (c_shift : Int32) (c_link : Int32) (c_chordMany : Int32) (c_lastMany : Int32) (c_bestMany : Int32) (c_bestStrokes : Int32) (c_triedMany : Int32) (c_triedStrokes : Int32) (c_planMany : Int32) (c_planStrokes : Int32) (c_madeMany : Int32) (c_madeStrokes : Int32) (c_isClear : Int32) (c_isPlanned : Int32) (a_text : (Nat → Int32)) (a_textMany : (Nat → Int32)) (a_texts : (Nat → Int32)) (x1 : Int32) (N : Nat) {T : Int32 × (Nat → Int32)} (h : jf_Model_joins N x1 c_lastMany a_textMany a_texts c_length a_text = some T) : jMv l yX11_joins wsX11_joins jr_Model_joins E [.ref q_this, .int x1] (jw_Model_joins E q_this q_tape q_taken q_strokeMany q_kind q_textMany q_strokes q_texts q_record q_itsEntry q_itsFirst q_text q_lengthAhead q_lengthBehind q_chord q_asked q_way q_wayStrokes q_wayMany q_best q_tried q_plan q_made q_trial q_two c_taped c_entries c_recorded c_translations c_length c_shift c_link c_chordMany c_lastMany c_bestMany c_bestStrokes c_triedMany c_triedStrokes c_planMany c_planStrokes c_madeMany c_madeStrokes c_isClear c_isPlanned a_text a_textMany a_texts) (jw_Model_joins E q_this q_tape q_taken q_strokeMany q_kind q_textMany q_strokes q_texts q_record q_itsEntry q_itsFirst q_text q_lengthAhead q_lengthBehind q_chord q_asked q_way q_wayStrokes q_wayMany q_best q_tried q_plan q_made q_trial q_two c_taped c_entries c_recorded c_translations T.1 c_shift c_link c_chordMany c_lastMany c_bestMany c_bestStrokes c_triedMany c_triedStrokes c_planMany c_planStrokes c_madeMany c_madeStrokes c_isClear c_isPlanned T.2 a_textMany a_texts) := by
  refine jMv.begin (cc := cX11_joins) (maxL := 6) (ret := none) (by decide) rfl (Nat.le_of_ble_eq_true rfl) ?_
  intro p e s m args below meth c A ls Q hQ hx hb hr hml hown hlocks hts hK hA hP hD hS hl
  replace hown : s.vm.findClass RX11 = some m.cls := hown
  replace hl : lv_has ls 6 [(0, .ref q_this), (1, .int x1)] := hl
  have hin11 : ∀ w ∈ u_ws RX11 TX11 43, w ∈ wsX11_joins := by decide +kernel
  have hk_23 := hts (.fieldLink RX11 23 "StenoRoomModel" "textMany" "[I") (by decide +kernel)
  have hk_41 := hts (.fieldLink RX11 41 "StenoRoomModel" "text" "[B") (by decide +kernel)
  have hk_130 := hts (.fieldLink RX11 130 "StenoRoomModel" "length" "I") (by decide +kernel)
  have kb117 : ∀ (n : Nat) (x5 : Int32) (c_length : Int32) (a_text : (Nat → Int32)) (H : Heap) (locs : List Loc) (ls : Array Slot), jf_Model_joins_b117 x1 a_textMany a_texts n x5 c_length a_text = some T → va_P E.1 vwCl (jw_Model_joins E q_this q_tape q_taken q_strokeMany q_kind q_textMany q_strokes q_texts q_record q_itsEntry q_itsFirst q_text q_lengthAhead q_lengthBehind q_chord q_asked q_way q_wayStrokes q_wayMany q_best q_tried q_plan q_made q_trial q_two c_taped c_entries c_recorded c_translations c_length c_shift c_link c_chordMany c_lastMany c_bestMany c_bestStrokes c_triedMany c_triedStrokes c_planMany c_planStrokes c_madeMany c_madeStrokes c_isClear c_isPlanned a_text a_textMany a_texts) H → va_D A (jw_Model_joins E q_this q_tape q_taken q_strokeMany q_kind q_textMany q_strokes q_texts q_record q_itsEntry q_itsFirst q_text q_lengthAhead q_lengthBehind q_chord q_asked q_way q_wayStrokes q_wayMany q_best q_tried q_plan q_made q_trial q_two c_taped c_entries c_recorded c_translations c_length c_shift c_link c_chordMany c_lastMany c_bestMany c_bestStrokes c_triedMany c_triedStrokes c_planMany c_planStrokes c_madeMany c_madeStrokes c_isClear c_isPlanned a_text a_textMany a_texts) → va_S A s.heap H locs → lv_has ls 6 [(0, .ref q_this), (1, .int x1), (5, .int x5)] → W p l e jr_Model_joins s m args below meth c H locs 0 0 Q (F0 m 117 ls []) := by
    intro n
    induction n with
    | zero => intro x5 c_length a_text H locs ls h; exact j_none (α := Int32 × (Nat → Int32)) h
    | succ n ih =>
      intro x5 c_length a_text H locs ls h hP hD hS hl
      rw [jf_Model_joins_b117] at h
      refine lv_iload hx hb dX11_joins_117 (lv_at hl 2 rfl) ?_
      refine lv_aload_n hx hb dX11_joins_119 rfl (lv_at hl 0 rfl) ?_
      refine va_get (D := E.1) (ci := 11) (v := .ref q_textMany) (C := RX11) (T := TX11) (N := 43) hx hb hts hin11 hown hK.1 hP 0 rfl rfl 6 (by decide) hk_23 (fun _ h9 => h9) rfl dX11_joins_120 ?_
      refine lv_iload_n hx hb dX11_joins_123 rfl (lv_at hl 1 rfl) ?_
      obtain ⟨g124, h⟩ := jga_e h
      refine va_iald hx hb hK.1 hP 2 1 rfl rfl g124 dX11_joins_124 ?_
      refine lv_icmp_ge (tgt := 145) hx hb dX11_joins_125 (by decide) (fun hq125 => ?_) (fun hq125 => ?_)
      · replace h := jif_t hq125 h
        exact j_vret (u := (c_length, a_text)) (wv := (fun T => (jw_Model_joins E q_this q_tape q_taken q_strokeMany q_kind q_textMany q_strokes q_texts q_record q_itsEntry q_itsFirst q_text q_lengthAhead q_lengthBehind q_chord q_asked q_way q_wayStrokes q_wayMany q_best q_tried q_plan q_made q_trial q_two c_taped c_entries c_recorded c_translations T.1 c_shift c_link c_chordMany c_lastMany c_bestMany c_bestStrokes c_triedMany c_triedStrokes c_planMany c_planStrokes c_madeMany c_madeStrokes c_isClear c_isPlanned T.2 a_textMany a_texts))) h hQ hx hb hr hlocks hS hP hD dX11_joins_145
      · replace h := jif_f hq125 h
        refine lv_aload_n hx hb dX11_joins_128 rfl (lv_at hl 0 rfl) ?_
        refine lv_aload_n hx hb dX11_joins_129 rfl (lv_at hl 0 rfl) ?_
        refine lv_iload_n hx hb dX11_joins_130 rfl (lv_at hl 1 rfl) ?_
        refine lv_iload hx hb dX11_joins_131 (lv_at hl 2 rfl) ?_
        obtain ⟨r133, hf133, h⟩ := jbd h
        refine j_callVi (own := RX11) (As := [.int x1, .int x5]) (rest := [.ref q_this]) hx hb hml hown hts hK hA hP hD hS (jc_Model_byteOf l E q_this q_tape q_taken q_strokeMany q_kind q_textMany q_strokes q_texts q_record q_itsEntry q_itsFirst q_text q_lengthAhead q_lengthBehind q_chord q_asked q_way q_wayStrokes q_wayMany q_best q_tried q_plan q_made q_trial q_two c_taped c_entries c_recorded c_translations c_length c_shift c_link c_chordMany c_lastMany c_bestMany c_bestStrokes c_triedMany c_triedStrokes c_planMany c_planStrokes c_madeMany c_madeStrokes c_isClear c_isPlanned a_texts x1 x5 N hf133) gX11_joins_X11_byteOf rfl ⟨rfl, rfl⟩ 2 (by decide +kernel) rfl rfl 0 11 rfl rfl [0, 3] [1, 2] [2, 0, 1, 3] rfl rfl rfl rfl rfl rfl rfl hl.1 rfl rfl dX11_joins_133 (fun H locs hP hD hS => ?_)
        replace hP : va_P E.1 vwCl (jw_Model_joins E q_this q_tape q_taken q_strokeMany q_kind q_textMany q_strokes q_texts q_record q_itsEntry q_itsFirst q_text q_lengthAhead q_lengthBehind q_chord q_asked q_way q_wayStrokes q_wayMany q_best q_tried q_plan q_made q_trial q_two c_taped c_entries c_recorded c_translations c_length c_shift c_link c_chordMany c_lastMany c_bestMany c_bestStrokes c_triedMany c_triedStrokes c_planMany c_planStrokes c_madeMany c_madeStrokes c_isClear c_isPlanned a_text a_textMany a_texts) H := hP
        replace hD : va_D A (jw_Model_joins E q_this q_tape q_taken q_strokeMany q_kind q_textMany q_strokes q_texts q_record q_itsEntry q_itsFirst q_text q_lengthAhead q_lengthBehind q_chord q_asked q_way q_wayStrokes q_wayMany q_best q_tried q_plan q_made q_trial q_two c_taped c_entries c_recorded c_translations c_length c_shift c_link c_chordMany c_lastMany c_bestMany c_bestStrokes c_triedMany c_triedStrokes c_planMany c_planStrokes c_madeMany c_madeStrokes c_isClear c_isPlanned a_text a_textMany a_texts) := hD
        obtain ⟨⟨c_length_136, a_text_136⟩, hf136, h⟩ := jbd h
        refine j_callVv (own := RX11) (As := [.int r133]) (rest := []) hx hb hml hown hts hK hA hP hD hS (jc_Model_puts l E q_this q_tape q_taken q_strokeMany q_kind q_textMany q_strokes q_texts q_record q_itsEntry q_itsFirst q_text q_lengthAhead q_lengthBehind q_chord q_asked q_way q_wayStrokes q_wayMany q_best q_tried q_plan q_made q_trial q_two c_taped c_entries c_recorded c_translations c_length c_shift c_link c_chordMany c_lastMany c_bestMany c_bestStrokes c_triedMany c_triedStrokes c_planMany c_planStrokes c_madeMany c_madeStrokes c_isClear c_isPlanned a_text r133 N hf136) gX11_joins_X11_puts rfl ⟨rfl, rfl⟩ 1 (by decide +kernel) rfl rfl 0 11 rfl rfl [0, 1] [2, 3] [2, 3, 0, 1] rfl rfl rfl rfl rfl rfl rfl hl.1 rfl rfl dX11_joins_136 (fun H locs hP hD hS => ?_)
        replace hP : va_P E.1 vwCl (jw_Model_joins E q_this q_tape q_taken q_strokeMany q_kind q_textMany q_strokes q_texts q_record q_itsEntry q_itsFirst q_text q_lengthAhead q_lengthBehind q_chord q_asked q_way q_wayStrokes q_wayMany q_best q_tried q_plan q_made q_trial q_two c_taped c_entries c_recorded c_translations c_length_136 c_shift c_link c_chordMany c_lastMany c_bestMany c_bestStrokes c_triedMany c_triedStrokes c_planMany c_planStrokes c_madeMany c_madeStrokes c_isClear c_isPlanned a_text_136 a_textMany a_texts) H := hP
        replace hD : va_D A (jw_Model_joins E q_this q_tape q_taken q_strokeMany q_kind q_textMany q_strokes q_texts q_record q_itsEntry q_itsFirst q_text q_lengthAhead q_lengthBehind q_chord q_asked q_way q_wayStrokes q_wayMany q_best q_tried q_plan q_made q_trial q_two c_taped c_entries c_recorded c_translations c_length_136 c_shift c_link c_chordMany c_lastMany c_bestMany c_bestStrokes c_triedMany c_triedStrokes c_planMany c_planStrokes c_madeMany c_madeStrokes c_isClear c_isPlanned a_text_136 a_textMany a_texts) := hD
        refine lv_iinc (v := (x5 + 1)) (lv' := [(5, .int (x5 + 1)), (0, .ref q_this), (1, .int x1)]) hx hb dX11_joins_139 hl (k := 2) rfl rfl (by decide) rfl (fun ls hl => ?_)
        refine lv_goto (tgt := 117) hx hb dX11_joins_142 (by decide) ?_
        exact ih (x5 + 1) c_length_136 a_text_136 _ _ _ h hP hD hS (lv_sub hl [1, 2, 0] rfl)
  have kb114 : ∀ (c_length : Int32) (a_text : (Nat → Int32)) (H : Heap) (locs : List Loc) (ls : Array Slot), jf_Model_joins_b114 N x1 a_textMany a_texts c_length a_text = some T → va_P E.1 vwCl (jw_Model_joins E q_this q_tape q_taken q_strokeMany q_kind q_textMany q_strokes q_texts q_record q_itsEntry q_itsFirst q_text q_lengthAhead q_lengthBehind q_chord q_asked q_way q_wayStrokes q_wayMany q_best q_tried q_plan q_made q_trial q_two c_taped c_entries c_recorded c_translations c_length c_shift c_link c_chordMany c_lastMany c_bestMany c_bestStrokes c_triedMany c_triedStrokes c_planMany c_planStrokes c_madeMany c_madeStrokes c_isClear c_isPlanned a_text a_textMany a_texts) H → va_D A (jw_Model_joins E q_this q_tape q_taken q_strokeMany q_kind q_textMany q_strokes q_texts q_record q_itsEntry q_itsFirst q_text q_lengthAhead q_lengthBehind q_chord q_asked q_way q_wayStrokes q_wayMany q_best q_tried q_plan q_made q_trial q_two c_taped c_entries c_recorded c_translations c_length c_shift c_link c_chordMany c_lastMany c_bestMany c_bestStrokes c_triedMany c_triedStrokes c_planMany c_planStrokes c_madeMany c_madeStrokes c_isClear c_isPlanned a_text a_textMany a_texts) → va_S A s.heap H locs → lv_has ls 6 [(0, .ref q_this), (1, .int x1)] → W p l e jr_Model_joins s m args below meth c H locs 0 0 Q (F0 m 114 ls []) := by
    intro  c_length a_text H locs ls h hP hD hS hl
    unfold jf_Model_joins_b114 at h
    refine lv_iconst (v := 0) hx hb dX11_joins_114 (by decide) ?_
    refine lv_istore (lv' := [(5, .int 0), (0, .ref q_this), (1, .int x1)]) hx hb dX11_joins_115 hl (by decide) rfl (fun ls hl => ?_)
    exact kb117  N 0 c_length a_text _ _ _ h hP hD hS (lv_sub hl [1, 2, 0] rfl)
  have kb32 : ∀ (x2 : Int32) (z0 : Int32) (c_length : Int32) (a_text : (Nat → Int32)) (H : Heap) (locs : List Loc) (ls : Array Slot), jf_Model_joins_b32 N x1 c_lastMany a_textMany a_texts x2 z0 c_length a_text = some T → va_P E.1 vwCl (jw_Model_joins E q_this q_tape q_taken q_strokeMany q_kind q_textMany q_strokes q_texts q_record q_itsEntry q_itsFirst q_text q_lengthAhead q_lengthBehind q_chord q_asked q_way q_wayStrokes q_wayMany q_best q_tried q_plan q_made q_trial q_two c_taped c_entries c_recorded c_translations c_length c_shift c_link c_chordMany c_lastMany c_bestMany c_bestStrokes c_triedMany c_triedStrokes c_planMany c_planStrokes c_madeMany c_madeStrokes c_isClear c_isPlanned a_text a_textMany a_texts) H → va_D A (jw_Model_joins E q_this q_tape q_taken q_strokeMany q_kind q_textMany q_strokes q_texts q_record q_itsEntry q_itsFirst q_text q_lengthAhead q_lengthBehind q_chord q_asked q_way q_wayStrokes q_wayMany q_best q_tried q_plan q_made q_trial q_two c_taped c_entries c_recorded c_translations c_length c_shift c_link c_chordMany c_lastMany c_bestMany c_bestStrokes c_triedMany c_triedStrokes c_planMany c_planStrokes c_madeMany c_madeStrokes c_isClear c_isPlanned a_text a_textMany a_texts) → va_S A s.heap H locs → lv_has ls 6 [(0, .ref q_this), (1, .int x1), (2, .int x2)] → W p l e jr_Model_joins s m args below meth c H locs 0 0 Q (F0 m 32 ls [.int z0]) := by
    intro  x2 z0 c_length a_text H locs ls h hP hD hS hl
    unfold jf_Model_joins_b32 at h
    refine lv_istore_n (lv' := [(3, .int z0), (0, .ref q_this), (1, .int x1), (2, .int x2)]) hx hb dX11_joins_32 rfl hl (by decide) rfl (fun ls hl => ?_)
    refine lv_aload_n hx hb dX11_joins_33 rfl (lv_at hl 1 rfl) ?_
    refine lv_iconst (v := 0) hx hb dX11_joins_34 (by decide) ?_
    obtain ⟨r35, hf35, h⟩ := jbd h
    refine j_callVi (own := RX11) (As := [.int 0]) (rest := []) hx hb hml hown hts hK hA hP hD hS (jc_Model_last l E q_this q_tape q_taken q_strokeMany q_kind q_textMany q_strokes q_texts q_record q_itsEntry q_itsFirst q_text q_lengthAhead q_lengthBehind q_chord q_asked q_way q_wayStrokes q_wayMany q_best q_tried q_plan q_made q_trial q_two c_taped c_entries c_recorded c_translations c_length c_shift c_link c_chordMany c_lastMany c_bestMany c_bestStrokes c_triedMany c_triedStrokes c_planMany c_planStrokes c_madeMany c_madeStrokes c_isClear c_isPlanned a_text 0 N hf35) gX11_joins_X11_last rfl ⟨rfl, rfl⟩ 1 (by decide +kernel) rfl rfl 0 11 rfl rfl [0, 1] [2, 3] [2, 3, 0, 1] rfl rfl rfl rfl rfl rfl rfl hl.1 rfl rfl dX11_joins_35 (fun H locs hP hD hS => ?_)
    replace hP : va_P E.1 vwCl (jw_Model_joins E q_this q_tape q_taken q_strokeMany q_kind q_textMany q_strokes q_texts q_record q_itsEntry q_itsFirst q_text q_lengthAhead q_lengthBehind q_chord q_asked q_way q_wayStrokes q_wayMany q_best q_tried q_plan q_made q_trial q_two c_taped c_entries c_recorded c_translations c_length c_shift c_link c_chordMany c_lastMany c_bestMany c_bestStrokes c_triedMany c_triedStrokes c_planMany c_planStrokes c_madeMany c_madeStrokes c_isClear c_isPlanned a_text a_textMany a_texts) H := hP
    replace hD : va_D A (jw_Model_joins E q_this q_tape q_taken q_strokeMany q_kind q_textMany q_strokes q_texts q_record q_itsEntry q_itsFirst q_text q_lengthAhead q_lengthBehind q_chord q_asked q_way q_wayStrokes q_wayMany q_best q_tried q_plan q_made q_trial q_two c_taped c_entries c_recorded c_translations c_length c_shift c_link c_chordMany c_lastMany c_bestMany c_bestStrokes c_triedMany c_triedStrokes c_planMany c_planStrokes c_madeMany c_madeStrokes c_isClear c_isPlanned a_text a_textMany a_texts) := hD
    refine lv_istore (lv' := [(4, .int r35), (3, .int z0), (0, .ref q_this), (1, .int x1), (2, .int x2)]) hx hb dX11_joins_38 hl (by decide) rfl (fun ls hl => ?_)
    refine lv_iload_n hx hb dX11_joins_40 rfl (lv_at hl 4 rfl) ?_
    refine lv_iconst (v := 1) hx hb dX11_joins_41 (by decide) ?_
    refine lv_icmp_ne (tgt := 71) hx hb dX11_joins_42 (by decide) (fun hq42 => ?_) (fun hq42 => ?_)
    · replace h := jif_f hq42 h
      refine lv_iload_n hx hb dX11_joins_71 rfl (lv_at hl 4 rfl) ?_
      refine lv_iconst (v := 2) hx hb dX11_joins_72 (by decide) ?_
      refine lv_icmp_ne (tgt := 85) hx hb dX11_joins_73 (by decide) (fun hq73 => ?_) (fun hq73 => ?_)
      · replace h := jif_f hq73 h
        refine lv_iload_n hx hb dX11_joins_85 rfl (lv_at hl 4 rfl) ?_
        refine lv_iconst (v := 3) hx hb dX11_joins_86 (by decide) ?_
        refine lv_icmp_ne (tgt := 103) hx hb dX11_joins_87 (by decide) (fun hq87 => ?_) (fun hq87 => ?_)
        · replace h := jif_f hq87 h
          refine lv_iload_n hx hb dX11_joins_103 rfl (lv_at hl 4 rfl) ?_
          refine lv_iconst (v := 4) hx hb dX11_joins_104 (by decide) ?_
          refine lv_icmp_ne (tgt := 114) hx hb dX11_joins_105 (by decide) (fun hq105 => ?_) (fun hq105 => ?_)
          · replace h := jif_f hq105 h
            exact kb114   c_length a_text _ _ _ h hP hD hS (lv_sub hl [2, 3] rfl)
          · replace h := jif_t hq105 h
            refine lv_aload_n hx hb dX11_joins_108 rfl (lv_at hl 2 rfl) ?_
            refine lv_iload hx hb dX11_joins_109 (lv_at hl 0 rfl) ?_
            obtain ⟨⟨c_length_111, a_text_111⟩, hf111, h⟩ := jbd h
            refine j_callVv (own := RX11) (As := [.int r35]) (rest := []) hx hb hml hown hts hK hA hP hD hS (jc_Model_puts l E q_this q_tape q_taken q_strokeMany q_kind q_textMany q_strokes q_texts q_record q_itsEntry q_itsFirst q_text q_lengthAhead q_lengthBehind q_chord q_asked q_way q_wayStrokes q_wayMany q_best q_tried q_plan q_made q_trial q_two c_taped c_entries c_recorded c_translations c_length c_shift c_link c_chordMany c_lastMany c_bestMany c_bestStrokes c_triedMany c_triedStrokes c_planMany c_planStrokes c_madeMany c_madeStrokes c_isClear c_isPlanned a_text r35 N hf111) gX11_joins_X11_puts rfl ⟨rfl, rfl⟩ 1 (by decide +kernel) rfl rfl 0 11 rfl rfl [0, 1] [2, 3] [2, 3, 0, 1] rfl rfl rfl rfl rfl rfl rfl hl.1 rfl rfl dX11_joins_111 (fun H locs hP hD hS => ?_)
            replace hP : va_P E.1 vwCl (jw_Model_joins E q_this q_tape q_taken q_strokeMany q_kind q_textMany q_strokes q_texts q_record q_itsEntry q_itsFirst q_text q_lengthAhead q_lengthBehind q_chord q_asked q_way q_wayStrokes q_wayMany q_best q_tried q_plan q_made q_trial q_two c_taped c_entries c_recorded c_translations c_length_111 c_shift c_link c_chordMany c_lastMany c_bestMany c_bestStrokes c_triedMany c_triedStrokes c_planMany c_planStrokes c_madeMany c_madeStrokes c_isClear c_isPlanned a_text_111 a_textMany a_texts) H := hP
            replace hD : va_D A (jw_Model_joins E q_this q_tape q_taken q_strokeMany q_kind q_textMany q_strokes q_texts q_record q_itsEntry q_itsFirst q_text q_lengthAhead q_lengthBehind q_chord q_asked q_way q_wayStrokes q_wayMany q_best q_tried q_plan q_made q_trial q_two c_taped c_entries c_recorded c_translations c_length_111 c_shift c_link c_chordMany c_lastMany c_bestMany c_bestStrokes c_triedMany c_triedStrokes c_planMany c_planStrokes c_madeMany c_madeStrokes c_isClear c_isPlanned a_text_111 a_textMany a_texts) := hD
            exact kb114   c_length_111 a_text_111 _ _ _ h hP hD hS (lv_sub hl [2, 3] rfl)
        · replace h := jif_t hq87 h
          refine lv_aload_n hx hb dX11_joins_90 rfl (lv_at hl 2 rfl) ?_
          refine lv_aload_n hx hb dX11_joins_91 rfl (lv_at hl 2 rfl) ?_
          refine va_get (D := E.1) (ci := 11) (v := .int c_length) (C := RX11) (T := TX11) (N := 43) hx hb hts hin11 hown hK.1 hP 0 rfl rfl 17 (by decide) hk_130 (fun _ h9 => h9) rfl dX11_joins_92 ?_
          refine lv_iconst (v := 1) hx hb dX11_joins_95 (by decide) ?_
          refine lv_isub hx hb dX11_joins_96 ?_
          refine va_put (D := E.1) (ci := 11) (v := .int (c_length - 1)) (ty := .int) (C := RX11) (T := TX11) (N := 43) hx hb hts hin11 tyX11 tyX11_ok nmX11 hown hK.1 hP hD hS 0 rfl rfl 17 (by decide) hk_130 (fun _ h9 => h9) rfl (by decide +kernel) rfl rfl (Nat.le_of_ble_eq_true rfl) dX11_joins_97 (fun H locs hP hD hS => ?_)
          replace hP : va_P E.1 vwCl (jw_Model_joins E q_this q_tape q_taken q_strokeMany q_kind q_textMany q_strokes q_texts q_record q_itsEntry q_itsFirst q_text q_lengthAhead q_lengthBehind q_chord q_asked q_way q_wayStrokes q_wayMany q_best q_tried q_plan q_made q_trial q_two c_taped c_entries c_recorded c_translations (c_length - 1) c_shift c_link c_chordMany c_lastMany c_bestMany c_bestStrokes c_triedMany c_triedStrokes c_planMany c_planStrokes c_madeMany c_madeStrokes c_isClear c_isPlanned a_text a_textMany a_texts) H := hP
          replace hD : va_D A (jw_Model_joins E q_this q_tape q_taken q_strokeMany q_kind q_textMany q_strokes q_texts q_record q_itsEntry q_itsFirst q_text q_lengthAhead q_lengthBehind q_chord q_asked q_way q_wayStrokes q_wayMany q_best q_tried q_plan q_made q_trial q_two c_taped c_entries c_recorded c_translations (c_length - 1) c_shift c_link c_chordMany c_lastMany c_bestMany c_bestStrokes c_triedMany c_triedStrokes c_planMany c_planStrokes c_madeMany c_madeStrokes c_isClear c_isPlanned a_text a_textMany a_texts) := hD
          refine lv_goto (tgt := 114) hx hb dX11_joins_100 (by decide) ?_
          exact kb114   (c_length - 1) a_text _ _ _ h hP hD hS (lv_sub hl [2, 3] rfl)
      · replace h := jif_t hq73 h
        refine lv_aload_n hx hb dX11_joins_76 rfl (lv_at hl 2 rfl) ?_
        refine lv_bipush (v := 101) hx hb dX11_joins_77 (by decide) ?_
        obtain ⟨⟨c_length_79, a_text_79⟩, hf79, h⟩ := jbd h
        refine j_callVv (own := RX11) (As := [.int 101]) (rest := []) hx hb hml hown hts hK hA hP hD hS (jc_Model_puts l E q_this q_tape q_taken q_strokeMany q_kind q_textMany q_strokes q_texts q_record q_itsEntry q_itsFirst q_text q_lengthAhead q_lengthBehind q_chord q_asked q_way q_wayStrokes q_wayMany q_best q_tried q_plan q_made q_trial q_two c_taped c_entries c_recorded c_translations c_length c_shift c_link c_chordMany c_lastMany c_bestMany c_bestStrokes c_triedMany c_triedStrokes c_planMany c_planStrokes c_madeMany c_madeStrokes c_isClear c_isPlanned a_text 101 N hf79) gX11_joins_X11_puts rfl ⟨rfl, rfl⟩ 1 (by decide +kernel) rfl rfl 0 11 rfl rfl [0, 1] [2, 3] [2, 3, 0, 1] rfl rfl rfl rfl rfl rfl rfl hl.1 rfl rfl dX11_joins_79 (fun H locs hP hD hS => ?_)
        replace hP : va_P E.1 vwCl (jw_Model_joins E q_this q_tape q_taken q_strokeMany q_kind q_textMany q_strokes q_texts q_record q_itsEntry q_itsFirst q_text q_lengthAhead q_lengthBehind q_chord q_asked q_way q_wayStrokes q_wayMany q_best q_tried q_plan q_made q_trial q_two c_taped c_entries c_recorded c_translations c_length_79 c_shift c_link c_chordMany c_lastMany c_bestMany c_bestStrokes c_triedMany c_triedStrokes c_planMany c_planStrokes c_madeMany c_madeStrokes c_isClear c_isPlanned a_text_79 a_textMany a_texts) H := hP
        replace hD : va_D A (jw_Model_joins E q_this q_tape q_taken q_strokeMany q_kind q_textMany q_strokes q_texts q_record q_itsEntry q_itsFirst q_text q_lengthAhead q_lengthBehind q_chord q_asked q_way q_wayStrokes q_wayMany q_best q_tried q_plan q_made q_trial q_two c_taped c_entries c_recorded c_translations c_length_79 c_shift c_link c_chordMany c_lastMany c_bestMany c_bestStrokes c_triedMany c_triedStrokes c_planMany c_planStrokes c_madeMany c_madeStrokes c_isClear c_isPlanned a_text_79 a_textMany a_texts) := hD
        refine lv_goto (tgt := 114) hx hb dX11_joins_82 (by decide) ?_
        exact kb114   c_length_79 a_text_79 _ _ _ h hP hD hS (lv_sub hl [2, 3] rfl)
    · replace h := jif_t hq42 h
      refine lv_aload_n hx hb dX11_joins_45 rfl (lv_at hl 2 rfl) ?_
      refine va_get (D := E.1) (ci := 11) (v := .ref q_text) (C := RX11) (T := TX11) (N := 43) hx hb hts hin11 hown hK.1 hP 0 rfl rfl 14 (by decide) hk_41 (fun _ h9 => h9) rfl dX11_joins_46 ?_
      refine lv_aload_n hx hb dX11_joins_49 rfl (lv_at hl 2 rfl) ?_
      refine va_get (D := E.1) (ci := 11) (v := .int c_length) (C := RX11) (T := TX11) (N := 43) hx hb hts hin11 hown hK.1 hP 0 rfl rfl 17 (by decide) hk_130 (fun _ h9 => h9) rfl dX11_joins_50 ?_
      refine lv_iconst (v := 1) hx hb dX11_joins_53 (by decide) ?_
      refine lv_isub hx hb dX11_joins_54 ?_
      refine lv_bipush (v := 105) hx hb dX11_joins_55 (by decide) ?_
      obtain ⟨g57, h⟩ := jga_e h
      refine va_bast hx hb hK.1 hP hD hS 1 0 rfl rfl g57 dX11_joins_57 (fun H locs hP hD hS => ?_)
      replace hP : va_P E.1 vwCl (jw_Model_joins E q_this q_tape q_taken q_strokeMany q_kind q_textMany q_strokes q_texts q_record q_itsEntry q_itsFirst q_text q_lengthAhead q_lengthBehind q_chord q_asked q_way q_wayStrokes q_wayMany q_best q_tried q_plan q_made q_trial q_two c_taped c_entries c_recorded c_translations c_length c_shift c_link c_chordMany c_lastMany c_bestMany c_bestStrokes c_triedMany c_triedStrokes c_planMany c_planStrokes c_madeMany c_madeStrokes c_isClear c_isPlanned (upd a_text (c_length - 1).toNatClampNeg (vp_nar .byte 105)) a_textMany a_texts) H := hP
      replace hD : va_D A (jw_Model_joins E q_this q_tape q_taken q_strokeMany q_kind q_textMany q_strokes q_texts q_record q_itsEntry q_itsFirst q_text q_lengthAhead q_lengthBehind q_chord q_asked q_way q_wayStrokes q_wayMany q_best q_tried q_plan q_made q_trial q_two c_taped c_entries c_recorded c_translations c_length c_shift c_link c_chordMany c_lastMany c_bestMany c_bestStrokes c_triedMany c_triedStrokes c_planMany c_planStrokes c_madeMany c_madeStrokes c_isClear c_isPlanned (upd a_text (c_length - 1).toNatClampNeg (vp_nar .byte 105)) a_textMany a_texts) := hD
      refine lv_iload_n hx hb dX11_joins_58 rfl (lv_at hl 1 rfl) ?_
      refine lv_if_eq (tgt := 114) hx hb dX11_joins_59 (by decide) (fun hq59 => ?_) (fun hq59 => ?_)
      · replace h := jif_t hq59 h
        exact kb114   c_length (upd a_text (c_length - 1).toNatClampNeg (vp_nar .byte 105)) _ _ _ h hP hD hS (lv_sub hl [2, 3] rfl)
      · replace h := jif_f hq59 h
        refine lv_aload_n hx hb dX11_joins_62 rfl (lv_at hl 2 rfl) ?_
        refine lv_bipush (v := 101) hx hb dX11_joins_63 (by decide) ?_
        obtain ⟨⟨c_length_65, a_text_65⟩, hf65, h⟩ := jbd h
        refine j_callVv (own := RX11) (As := [.int 101]) (rest := []) hx hb hml hown hts hK hA hP hD hS (jc_Model_puts l E q_this q_tape q_taken q_strokeMany q_kind q_textMany q_strokes q_texts q_record q_itsEntry q_itsFirst q_text q_lengthAhead q_lengthBehind q_chord q_asked q_way q_wayStrokes q_wayMany q_best q_tried q_plan q_made q_trial q_two c_taped c_entries c_recorded c_translations c_length c_shift c_link c_chordMany c_lastMany c_bestMany c_bestStrokes c_triedMany c_triedStrokes c_planMany c_planStrokes c_madeMany c_madeStrokes c_isClear c_isPlanned (upd a_text (c_length - 1).toNatClampNeg (vp_nar .byte 105)) 101 N hf65) gX11_joins_X11_puts rfl ⟨rfl, rfl⟩ 1 (by decide +kernel) rfl rfl 0 11 rfl rfl [0, 1] [2, 3] [2, 3, 0, 1] rfl rfl rfl rfl rfl rfl rfl hl.1 rfl rfl dX11_joins_65 (fun H locs hP hD hS => ?_)
        replace hP : va_P E.1 vwCl (jw_Model_joins E q_this q_tape q_taken q_strokeMany q_kind q_textMany q_strokes q_texts q_record q_itsEntry q_itsFirst q_text q_lengthAhead q_lengthBehind q_chord q_asked q_way q_wayStrokes q_wayMany q_best q_tried q_plan q_made q_trial q_two c_taped c_entries c_recorded c_translations c_length_65 c_shift c_link c_chordMany c_lastMany c_bestMany c_bestStrokes c_triedMany c_triedStrokes c_planMany c_planStrokes c_madeMany c_madeStrokes c_isClear c_isPlanned a_text_65 a_textMany a_texts) H := hP
        replace hD : va_D A (jw_Model_joins E q_this q_tape q_taken q_strokeMany q_kind q_textMany q_strokes q_texts q_record q_itsEntry q_itsFirst q_text q_lengthAhead q_lengthBehind q_chord q_asked q_way q_wayStrokes q_wayMany q_best q_tried q_plan q_made q_trial q_two c_taped c_entries c_recorded c_translations c_length_65 c_shift c_link c_chordMany c_lastMany c_bestMany c_bestStrokes c_triedMany c_triedStrokes c_planMany c_planStrokes c_madeMany c_madeStrokes c_isClear c_isPlanned a_text_65 a_textMany a_texts) := hD
        refine lv_goto (tgt := 114) hx hb dX11_joins_68 (by decide) ?_
        exact kb114   c_length_65 a_text_65 _ _ _ h hP hD hS (lv_sub hl [2, 3] rfl)
  have kb31 : ∀ (x2 : Int32) (c_length : Int32) (a_text : (Nat → Int32)) (H : Heap) (locs : List Loc) (ls : Array Slot), jf_Model_joins_b31 N x1 c_lastMany a_textMany a_texts x2 c_length a_text = some T → va_P E.1 vwCl (jw_Model_joins E q_this q_tape q_taken q_strokeMany q_kind q_textMany q_strokes q_texts q_record q_itsEntry q_itsFirst q_text q_lengthAhead q_lengthBehind q_chord q_asked q_way q_wayStrokes q_wayMany q_best q_tried q_plan q_made q_trial q_two c_taped c_entries c_recorded c_translations c_length c_shift c_link c_chordMany c_lastMany c_bestMany c_bestStrokes c_triedMany c_triedStrokes c_planMany c_planStrokes c_madeMany c_madeStrokes c_isClear c_isPlanned a_text a_textMany a_texts) H → va_D A (jw_Model_joins E q_this q_tape q_taken q_strokeMany q_kind q_textMany q_strokes q_texts q_record q_itsEntry q_itsFirst q_text q_lengthAhead q_lengthBehind q_chord q_asked q_way q_wayStrokes q_wayMany q_best q_tried q_plan q_made q_trial q_two c_taped c_entries c_recorded c_translations c_length c_shift c_link c_chordMany c_lastMany c_bestMany c_bestStrokes c_triedMany c_triedStrokes c_planMany c_planStrokes c_madeMany c_madeStrokes c_isClear c_isPlanned a_text a_textMany a_texts) → va_S A s.heap H locs → lv_has ls 6 [(0, .ref q_this), (1, .int x1), (2, .int x2)] → W p l e jr_Model_joins s m args below meth c H locs 0 0 Q (F0 m 31 ls []) := by
    intro  x2 c_length a_text H locs ls h hP hD hS hl
    unfold jf_Model_joins_b31 at h
    refine lv_iconst (v := 0) hx hb dX11_joins_31 (by decide) ?_
    exact kb32   x2 0 c_length a_text _ _ _ h hP hD hS (lv_sub hl [0, 1, 2] rfl)
  unfold jf_Model_joins at h
  refine lv_aload_n hx hb dX11_joins_0 rfl (lv_at hl 0 rfl) ?_
  refine lv_iload_n hx hb dX11_joins_1 rfl (lv_at hl 1 rfl) ?_
  obtain ⟨r2, hf2, h⟩ := jbd h
  refine j_callVi (own := RX11) (As := [.int x1]) (rest := []) hx hb hml hown hts hK hA hP hD hS (jc_Model_ruleOf l E q_this q_tape q_taken q_strokeMany q_kind q_textMany q_strokes q_texts q_record q_itsEntry q_itsFirst q_text q_lengthAhead q_lengthBehind q_chord q_asked q_way q_wayStrokes q_wayMany q_best q_tried q_plan q_made q_trial q_two c_taped c_entries c_recorded c_translations c_length c_shift c_link c_chordMany c_lastMany c_bestMany c_bestStrokes c_triedMany c_triedStrokes c_planMany c_planStrokes c_madeMany c_madeStrokes c_isClear c_isPlanned a_text a_textMany a_texts x1 N hf2) gX11_joins_X11_ruleOf rfl ⟨rfl, rfl⟩ 1 (by decide +kernel) rfl rfl 0 11 rfl rfl [0, 1, 2, 3] [] [0, 1, 2, 3] rfl rfl rfl rfl rfl rfl rfl hl.1 rfl rfl dX11_joins_2 (fun H locs hP hD hS => ?_)
  replace hP : va_P E.1 vwCl (jw_Model_joins E q_this q_tape q_taken q_strokeMany q_kind q_textMany q_strokes q_texts q_record q_itsEntry q_itsFirst q_text q_lengthAhead q_lengthBehind q_chord q_asked q_way q_wayStrokes q_wayMany q_best q_tried q_plan q_made q_trial q_two c_taped c_entries c_recorded c_translations c_length c_shift c_link c_chordMany c_lastMany c_bestMany c_bestStrokes c_triedMany c_triedStrokes c_planMany c_planStrokes c_madeMany c_madeStrokes c_isClear c_isPlanned a_text a_textMany a_texts) H := hP
  replace hD : va_D A (jw_Model_joins E q_this q_tape q_taken q_strokeMany q_kind q_textMany q_strokes q_texts q_record q_itsEntry q_itsFirst q_text q_lengthAhead q_lengthBehind q_chord q_asked q_way q_wayStrokes q_wayMany q_best q_tried q_plan q_made q_trial q_two c_taped c_entries c_recorded c_translations c_length c_shift c_link c_chordMany c_lastMany c_bestMany c_bestStrokes c_triedMany c_triedStrokes c_planMany c_planStrokes c_madeMany c_madeStrokes c_isClear c_isPlanned a_text a_textMany a_texts) := hD
  refine lv_istore_n (lv' := [(2, .int r2), (0, .ref q_this), (1, .int x1)]) hx hb dX11_joins_5 rfl hl (by decide) rfl (fun ls hl => ?_)
  refine lv_aload_n hx hb dX11_joins_6 rfl (lv_at hl 1 rfl) ?_
  refine va_get (D := E.1) (ci := 11) (v := .ref q_textMany) (C := RX11) (T := TX11) (N := 43) hx hb hts hin11 hown hK.1 hP 0 rfl rfl 6 (by decide) hk_23 (fun _ h9 => h9) rfl dX11_joins_7 ?_
  refine lv_iload_n hx hb dX11_joins_10 rfl (lv_at hl 2 rfl) ?_
  obtain ⟨g11, h⟩ := jga_e h
  refine va_iald hx hb hK.1 hP 2 1 rfl rfl g11 dX11_joins_11 ?_
  refine lv_iconst (v := 1) hx hb dX11_joins_12 (by decide) ?_
  refine lv_icmp_ne (tgt := 31) hx hb dX11_joins_13 (by decide) (fun hq13 => ?_) (fun hq13 => ?_)
  · replace h := jif_f hq13 h
    exact kb31   r2 c_length a_text _ _ _ h hP hD hS (lv_sub hl [1, 2, 0] rfl)
  · replace h := jif_t hq13 h
    refine lv_aload_n hx hb dX11_joins_16 rfl (lv_at hl 1 rfl) ?_
    refine lv_iload_n hx hb dX11_joins_17 rfl (lv_at hl 2 rfl) ?_
    refine lv_iconst (v := 0) hx hb dX11_joins_18 (by decide) ?_
    obtain ⟨r19, hf19, h⟩ := jbd h
    refine j_callVi (own := RX11) (As := [.int x1, .int 0]) (rest := []) hx hb hml hown hts hK hA hP hD hS (jc_Model_byteOf l E q_this q_tape q_taken q_strokeMany q_kind q_textMany q_strokes q_texts q_record q_itsEntry q_itsFirst q_text q_lengthAhead q_lengthBehind q_chord q_asked q_way q_wayStrokes q_wayMany q_best q_tried q_plan q_made q_trial q_two c_taped c_entries c_recorded c_translations c_length c_shift c_link c_chordMany c_lastMany c_bestMany c_bestStrokes c_triedMany c_triedStrokes c_planMany c_planStrokes c_madeMany c_madeStrokes c_isClear c_isPlanned a_texts x1 0 N hf19) gX11_joins_X11_byteOf rfl ⟨rfl, rfl⟩ 2 (by decide +kernel) rfl rfl 0 11 rfl rfl [0, 3] [1, 2] [2, 0, 1, 3] rfl rfl rfl rfl rfl rfl rfl hl.1 rfl rfl dX11_joins_19 (fun H locs hP hD hS => ?_)
    replace hP : va_P E.1 vwCl (jw_Model_joins E q_this q_tape q_taken q_strokeMany q_kind q_textMany q_strokes q_texts q_record q_itsEntry q_itsFirst q_text q_lengthAhead q_lengthBehind q_chord q_asked q_way q_wayStrokes q_wayMany q_best q_tried q_plan q_made q_trial q_two c_taped c_entries c_recorded c_translations c_length c_shift c_link c_chordMany c_lastMany c_bestMany c_bestStrokes c_triedMany c_triedStrokes c_planMany c_planStrokes c_madeMany c_madeStrokes c_isClear c_isPlanned a_text a_textMany a_texts) H := hP
    replace hD : va_D A (jw_Model_joins E q_this q_tape q_taken q_strokeMany q_kind q_textMany q_strokes q_texts q_record q_itsEntry q_itsFirst q_text q_lengthAhead q_lengthBehind q_chord q_asked q_way q_wayStrokes q_wayMany q_best q_tried q_plan q_made q_trial q_two c_taped c_entries c_recorded c_translations c_length c_shift c_link c_chordMany c_lastMany c_bestMany c_bestStrokes c_triedMany c_triedStrokes c_planMany c_planStrokes c_madeMany c_madeStrokes c_isClear c_isPlanned a_text a_textMany a_texts) := hD
    refine lv_bipush (v := 115) hx hb dX11_joins_22 (by decide) ?_
    refine lv_icmp_ne (tgt := 31) hx hb dX11_joins_24 (by decide) (fun hq24 => ?_) (fun hq24 => ?_)
    · replace h := jif_f hq24 h
      exact kb31   r2 c_length a_text _ _ _ h hP hD hS (lv_sub hl [1, 2, 0] rfl)
    · replace h := jif_t hq24 h
      refine lv_iconst (v := 1) hx hb dX11_joins_27 (by decide) ?_
      refine lv_goto (tgt := 32) hx hb dX11_joins_28 (by decide) ?_
      exact kb32   r2 1 c_length a_text _ _ _ h hP hD hS (lv_sub hl [1, 2, 0] rfl)
abbrev jw_Model_suffix (E : jE) (q_this q_tape q_taken q_strokeMany q_kind q_textMany q_strokes q_texts q_record q_itsEntry q_itsFirst q_text q_lengthAhead q_lengthBehind q_chord q_asked q_way q_wayStrokes q_wayMany q_best q_tried q_plan q_made q_trial q_two : Nat) (c_taped : Int32) (c_entries : Int32) (c_recorded : Int32) (c_translations : Int32) (c_length : Int32) (c_shift : Int32) (c_link : Int32) (c_chordMany : Int32) (c_lastMany : Int32) (c_bestMany : Int32) (c_bestStrokes : Int32) (c_triedMany : Int32) (c_triedStrokes : Int32) (c_planMany : Int32) (c_planStrokes : Int32) (c_madeMany : Int32) (c_madeStrokes : Int32) (c_isClear : Int32) (c_isPlanned : Int32) (a_text : (Nat → Int32)) (a_textMany : (Nat → Int32)) (a_texts : (Nat → Int32)) : va_W := [(q_this, .inr (11, [.ref q_tape, .ref q_taken, .int c_taped, .int c_entries, .ref q_strokeMany, .ref q_kind, .ref q_textMany, .ref q_strokes, .ref q_texts, .ref q_record, .int c_recorded, .ref q_itsEntry, .ref q_itsFirst, .int c_translations, .ref q_text, .ref q_lengthAhead, .ref q_lengthBehind, .int c_length, .int c_shift, .int c_link, .ref q_chord, .int c_chordMany, .int c_lastMany, .ref q_asked, .ref q_way, .ref q_wayStrokes, .ref q_wayMany, .ref q_best, .ref q_tried, .ref q_plan, .ref q_made, .int c_bestMany, .int c_bestStrokes, .int c_triedMany, .int c_triedStrokes, .int c_planMany, .int c_planStrokes, .int c_madeMany, .int c_madeStrokes, .int c_isClear, .int c_isPlanned, .ref q_trial, .ref q_two])), (q_text, .inl (E.2.1, 8000, .inl a_text)), (q_textMany, .inl (E.2.2.1, 61, .inl a_textMany)), (q_texts, .inl (E.2.1, 976, .inl a_texts))]
def jr_Model_suffix : Room := { frames := 4, cells := 0, slots := 0, locals := 94 }
set_option maxHeartbeats 4000000 in
set_option maxRecDepth 100000 in
theorem jc_Model_suffix (l : Launch) (E : jE) (q_this q_tape q_taken q_strokeMany q_kind q_textMany q_strokes q_texts q_record q_itsEntry q_itsFirst q_text q_lengthAhead q_lengthBehind q_chord q_asked q_way q_wayStrokes q_wayMany q_best q_tried q_plan q_made q_trial q_two : Nat) (c_taped : Int32) (c_entries : Int32) (c_recorded : Int32) (c_translations : Int32) (c_length : Int32) (c_shift : Int32) (c_link : Int32) (c_chordMany : Int32) (c_lastMany : Int32) (c_bestMany : Int32) (c_bestStrokes : Int32) (c_triedMany : Int32) (c_triedStrokes : Int32) (c_planMany : Int32) (c_planStrokes : Int32) (c_madeMany : Int32) (c_madeStrokes : Int32) (c_isClear : Int32) (c_isPlanned : Int32) (a_text : (Nat → Int32)) (a_textMany : (Nat → Int32)) (a_texts : (Nat → Int32)) (x1 : Int32) (N : Nat) {T : Int32 × Int32 × Int32 × Int32 × (Nat → Int32)} (h : jf_Model_suffix N x1 a_textMany a_texts c_length c_shift c_link c_lastMany a_text = some T) : jMv l yX11_suffix wsX11_suffix jr_Model_suffix E [.ref q_this, .int x1] (jw_Model_suffix E q_this q_tape q_taken q_strokeMany q_kind q_textMany q_strokes q_texts q_record q_itsEntry q_itsFirst q_text q_lengthAhead q_lengthBehind q_chord q_asked q_way q_wayStrokes q_wayMany q_best q_tried q_plan q_made q_trial q_two c_taped c_entries c_recorded c_translations c_length c_shift c_link c_chordMany c_lastMany c_bestMany c_bestStrokes c_triedMany c_triedStrokes c_planMany c_planStrokes c_madeMany c_madeStrokes c_isClear c_isPlanned a_text a_textMany a_texts) (jw_Model_suffix E q_this q_tape q_taken q_strokeMany q_kind q_textMany q_strokes q_texts q_record q_itsEntry q_itsFirst q_text q_lengthAhead q_lengthBehind q_chord q_asked q_way q_wayStrokes q_wayMany q_best q_tried q_plan q_made q_trial q_two c_taped c_entries c_recorded c_translations T.1 T.2.1 T.2.2.1 c_chordMany T.2.2.2.1 c_bestMany c_bestStrokes c_triedMany c_triedStrokes c_planMany c_planStrokes c_madeMany c_madeStrokes c_isClear c_isPlanned T.2.2.2.2 a_textMany a_texts) := by
  refine jMv.begin (cc := cX11_suffix) (maxL := 2) (ret := none) (by decide) rfl (Nat.le_of_ble_eq_true rfl) ?_
  intro p e s m args below meth c A ls Q hQ hx hb hr hml hown hlocks hts hK hA hP hD hS hl
  replace hown : s.vm.findClass RX11 = some m.cls := hown
  replace hl : lv_has ls 2 [(0, .ref q_this), (1, .int x1)] := hl
  have hin11 : ∀ w ∈ u_ws RX11 TX11 43, w ∈ wsX11_suffix := by decide +kernel
  have hk_41 := hts (.fieldLink RX11 41 "StenoRoomModel" "text" "[B") (by decide +kernel)
  have hk_130 := hts (.fieldLink RX11 130 "StenoRoomModel" "length" "I") (by decide +kernel)
  have hk_133 := hts (.fieldLink RX11 133 "StenoRoomModel" "link" "I") (by decide +kernel)
  have hk_156 := hts (.fieldLink RX11 156 "StenoRoomModel" "lastMany" "I") (by decide +kernel)
  have kb55 : ∀ (c_length : Int32) (c_shift : Int32) (c_link : Int32) (c_lastMany : Int32) (a_text : (Nat → Int32)) (H : Heap) (locs : List Loc) (ls : Array Slot), jf_Model_suffix_b55 N x1 a_textMany a_texts c_length c_shift c_link c_lastMany a_text = some T → va_P E.1 vwCl (jw_Model_suffix E q_this q_tape q_taken q_strokeMany q_kind q_textMany q_strokes q_texts q_record q_itsEntry q_itsFirst q_text q_lengthAhead q_lengthBehind q_chord q_asked q_way q_wayStrokes q_wayMany q_best q_tried q_plan q_made q_trial q_two c_taped c_entries c_recorded c_translations c_length c_shift c_link c_chordMany c_lastMany c_bestMany c_bestStrokes c_triedMany c_triedStrokes c_planMany c_planStrokes c_madeMany c_madeStrokes c_isClear c_isPlanned a_text a_textMany a_texts) H → va_D A (jw_Model_suffix E q_this q_tape q_taken q_strokeMany q_kind q_textMany q_strokes q_texts q_record q_itsEntry q_itsFirst q_text q_lengthAhead q_lengthBehind q_chord q_asked q_way q_wayStrokes q_wayMany q_best q_tried q_plan q_made q_trial q_two c_taped c_entries c_recorded c_translations c_length c_shift c_link c_chordMany c_lastMany c_bestMany c_bestStrokes c_triedMany c_triedStrokes c_planMany c_planStrokes c_madeMany c_madeStrokes c_isClear c_isPlanned a_text a_textMany a_texts) → va_S A s.heap H locs → lv_has ls 2 [(0, .ref q_this), (1, .int x1)] → W p l e jr_Model_suffix s m args below meth c H locs 0 0 Q (F0 m 55 ls []) := by
    intro  c_length c_shift c_link c_lastMany a_text H locs ls h hP hD hS hl
    unfold jf_Model_suffix_b55 at h
    refine lv_aload_n hx hb dX11_suffix_55 rfl (lv_at hl 0 rfl) ?_
    refine va_get (D := E.1) (ci := 11) (v := .int c_lastMany) (C := RX11) (T := TX11) (N := 43) hx hb hts hin11 hown hK.1 hP 0 rfl rfl 22 (by decide) hk_156 (fun _ h9 => h9) rfl dX11_suffix_56 ?_
    refine lv_if_ne (tgt := 69) hx hb dX11_suffix_59 (by decide) (fun hq59 => ?_) (fun hq59 => ?_)
    · replace h := jif_f hq59 h
      refine lv_aload_n hx hb dX11_suffix_69 rfl (lv_at hl 0 rfl) ?_
      refine lv_iload_n hx hb dX11_suffix_70 rfl (lv_at hl 1 rfl) ?_
      obtain ⟨⟨c_length_71, a_text_71⟩, hf71, h⟩ := jbd h
      refine j_callVv (own := RX11) (As := [.int x1]) (rest := []) hx hb hml hown hts hK hA hP hD hS (jc_Model_joins l E q_this q_tape q_taken q_strokeMany q_kind q_textMany q_strokes q_texts q_record q_itsEntry q_itsFirst q_text q_lengthAhead q_lengthBehind q_chord q_asked q_way q_wayStrokes q_wayMany q_best q_tried q_plan q_made q_trial q_two c_taped c_entries c_recorded c_translations c_length c_shift c_link c_chordMany c_lastMany c_bestMany c_bestStrokes c_triedMany c_triedStrokes c_planMany c_planStrokes c_madeMany c_madeStrokes c_isClear c_isPlanned a_text a_textMany a_texts x1 N hf71) gX11_suffix_X11_joins rfl ⟨rfl, rfl⟩ 1 (by decide +kernel) rfl rfl 0 11 rfl rfl [0, 1, 2, 3] [] [0, 1, 2, 3] rfl rfl rfl rfl rfl rfl rfl hl.1 rfl rfl dX11_suffix_71 (fun H locs hP hD hS => ?_)
      replace hP : va_P E.1 vwCl (jw_Model_suffix E q_this q_tape q_taken q_strokeMany q_kind q_textMany q_strokes q_texts q_record q_itsEntry q_itsFirst q_text q_lengthAhead q_lengthBehind q_chord q_asked q_way q_wayStrokes q_wayMany q_best q_tried q_plan q_made q_trial q_two c_taped c_entries c_recorded c_translations c_length_71 c_shift c_link c_chordMany c_lastMany c_bestMany c_bestStrokes c_triedMany c_triedStrokes c_planMany c_planStrokes c_madeMany c_madeStrokes c_isClear c_isPlanned a_text_71 a_textMany a_texts) H := hP
      replace hD : va_D A (jw_Model_suffix E q_this q_tape q_taken q_strokeMany q_kind q_textMany q_strokes q_texts q_record q_itsEntry q_itsFirst q_text q_lengthAhead q_lengthBehind q_chord q_asked q_way q_wayStrokes q_wayMany q_best q_tried q_plan q_made q_trial q_two c_taped c_entries c_recorded c_translations c_length_71 c_shift c_link c_chordMany c_lastMany c_bestMany c_bestStrokes c_triedMany c_triedStrokes c_planMany c_planStrokes c_madeMany c_madeStrokes c_isClear c_isPlanned a_text_71 a_textMany a_texts) := hD
      refine lv_aload_n hx hb dX11_suffix_74 rfl (lv_at hl 0 rfl) ?_
      refine lv_iconst (v := 0) hx hb dX11_suffix_75 (by decide) ?_
      refine va_put (D := E.1) (ci := 11) (v := .int 0) (ty := .int) (C := RX11) (T := TX11) (N := 43) hx hb hts hin11 tyX11 tyX11_ok nmX11 hown hK.1 hP hD hS 0 rfl rfl 19 (by decide) hk_133 (fun _ h9 => h9) rfl (by decide +kernel) rfl rfl (Nat.le_of_ble_eq_true rfl) dX11_suffix_76 (fun H locs hP hD hS => ?_)
      replace hP : va_P E.1 vwCl (jw_Model_suffix E q_this q_tape q_taken q_strokeMany q_kind q_textMany q_strokes q_texts q_record q_itsEntry q_itsFirst q_text q_lengthAhead q_lengthBehind q_chord q_asked q_way q_wayStrokes q_wayMany q_best q_tried q_plan q_made q_trial q_two c_taped c_entries c_recorded c_translations c_length_71 c_shift 0 c_chordMany c_lastMany c_bestMany c_bestStrokes c_triedMany c_triedStrokes c_planMany c_planStrokes c_madeMany c_madeStrokes c_isClear c_isPlanned a_text_71 a_textMany a_texts) H := hP
      replace hD : va_D A (jw_Model_suffix E q_this q_tape q_taken q_strokeMany q_kind q_textMany q_strokes q_texts q_record q_itsEntry q_itsFirst q_text q_lengthAhead q_lengthBehind q_chord q_asked q_way q_wayStrokes q_wayMany q_best q_tried q_plan q_made q_trial q_two c_taped c_entries c_recorded c_translations c_length_71 c_shift 0 c_chordMany c_lastMany c_bestMany c_bestStrokes c_triedMany c_triedStrokes c_planMany c_planStrokes c_madeMany c_madeStrokes c_isClear c_isPlanned a_text_71 a_textMany a_texts) := hD
      exact j_vret (u := (c_length_71, c_shift, 0, c_lastMany, a_text_71)) (wv := (fun T => (jw_Model_suffix E q_this q_tape q_taken q_strokeMany q_kind q_textMany q_strokes q_texts q_record q_itsEntry q_itsFirst q_text q_lengthAhead q_lengthBehind q_chord q_asked q_way q_wayStrokes q_wayMany q_best q_tried q_plan q_made q_trial q_two c_taped c_entries c_recorded c_translations T.1 T.2.1 T.2.2.1 c_chordMany T.2.2.2.1 c_bestMany c_bestStrokes c_triedMany c_triedStrokes c_planMany c_planStrokes c_madeMany c_madeStrokes c_isClear c_isPlanned T.2.2.2.2 a_textMany a_texts))) h hQ hx hb hr hlocks hS hP hD dX11_suffix_79
    · replace h := jif_t hq59 h
      refine lv_aload_n hx hb dX11_suffix_62 rfl (lv_at hl 0 rfl) ?_
      refine lv_iload_n hx hb dX11_suffix_63 rfl (lv_at hl 1 rfl) ?_
      refine lv_iconst (v := 1) hx hb dX11_suffix_64 (by decide) ?_
      obtain ⟨⟨c_length_65, c_shift_65, c_link_65, a_text_65⟩, hf65, h⟩ := jbd h
      refine j_callVv (own := RX11) (As := [.int x1, .int 1]) (rest := []) hx hb hml hown hts hK hA hP hD hS (jc_Model_word l E q_this q_tape q_taken q_strokeMany q_kind q_textMany q_strokes q_texts q_record q_itsEntry q_itsFirst q_text q_lengthAhead q_lengthBehind q_chord q_asked q_way q_wayStrokes q_wayMany q_best q_tried q_plan q_made q_trial q_two c_taped c_entries c_recorded c_translations c_length c_shift c_link c_chordMany c_lastMany c_bestMany c_bestStrokes c_triedMany c_triedStrokes c_planMany c_planStrokes c_madeMany c_madeStrokes c_isClear c_isPlanned a_text a_textMany a_texts x1 1 N hf65) gX11_suffix_X11_word rfl ⟨rfl, rfl⟩ 2 (by decide +kernel) rfl rfl 0 11 rfl rfl [0, 1, 2, 3] [] [0, 1, 2, 3] rfl rfl rfl rfl rfl rfl rfl hl.1 rfl rfl dX11_suffix_65 (fun H locs hP hD hS => ?_)
      replace hP : va_P E.1 vwCl (jw_Model_suffix E q_this q_tape q_taken q_strokeMany q_kind q_textMany q_strokes q_texts q_record q_itsEntry q_itsFirst q_text q_lengthAhead q_lengthBehind q_chord q_asked q_way q_wayStrokes q_wayMany q_best q_tried q_plan q_made q_trial q_two c_taped c_entries c_recorded c_translations c_length_65 c_shift_65 c_link_65 c_chordMany c_lastMany c_bestMany c_bestStrokes c_triedMany c_triedStrokes c_planMany c_planStrokes c_madeMany c_madeStrokes c_isClear c_isPlanned a_text_65 a_textMany a_texts) H := hP
      replace hD : va_D A (jw_Model_suffix E q_this q_tape q_taken q_strokeMany q_kind q_textMany q_strokes q_texts q_record q_itsEntry q_itsFirst q_text q_lengthAhead q_lengthBehind q_chord q_asked q_way q_wayStrokes q_wayMany q_best q_tried q_plan q_made q_trial q_two c_taped c_entries c_recorded c_translations c_length_65 c_shift_65 c_link_65 c_chordMany c_lastMany c_bestMany c_bestStrokes c_triedMany c_triedStrokes c_planMany c_planStrokes c_madeMany c_madeStrokes c_isClear c_isPlanned a_text_65 a_textMany a_texts) := hD
      exact j_vret (u := (c_length_65, c_shift_65, c_link_65, c_lastMany, a_text_65)) (wv := (fun T => (jw_Model_suffix E q_this q_tape q_taken q_strokeMany q_kind q_textMany q_strokes q_texts q_record q_itsEntry q_itsFirst q_text q_lengthAhead q_lengthBehind q_chord q_asked q_way q_wayStrokes q_wayMany q_best q_tried q_plan q_made q_trial q_two c_taped c_entries c_recorded c_translations T.1 T.2.1 T.2.2.1 c_chordMany T.2.2.2.1 c_bestMany c_bestStrokes c_triedMany c_triedStrokes c_planMany c_planStrokes c_madeMany c_madeStrokes c_isClear c_isPlanned T.2.2.2.2 a_textMany a_texts))) h hQ hx hb hr hlocks hS hP hD dX11_suffix_68
  have kb5 : ∀ (n : Nat) (c_length : Int32) (c_shift : Int32) (c_link : Int32) (c_lastMany : Int32) (a_text : (Nat → Int32)) (H : Heap) (locs : List Loc) (ls : Array Slot), jf_Model_suffix_b5 N x1 a_textMany a_texts n c_length c_shift c_link c_lastMany a_text = some T → va_P E.1 vwCl (jw_Model_suffix E q_this q_tape q_taken q_strokeMany q_kind q_textMany q_strokes q_texts q_record q_itsEntry q_itsFirst q_text q_lengthAhead q_lengthBehind q_chord q_asked q_way q_wayStrokes q_wayMany q_best q_tried q_plan q_made q_trial q_two c_taped c_entries c_recorded c_translations c_length c_shift c_link c_chordMany c_lastMany c_bestMany c_bestStrokes c_triedMany c_triedStrokes c_planMany c_planStrokes c_madeMany c_madeStrokes c_isClear c_isPlanned a_text a_textMany a_texts) H → va_D A (jw_Model_suffix E q_this q_tape q_taken q_strokeMany q_kind q_textMany q_strokes q_texts q_record q_itsEntry q_itsFirst q_text q_lengthAhead q_lengthBehind q_chord q_asked q_way q_wayStrokes q_wayMany q_best q_tried q_plan q_made q_trial q_two c_taped c_entries c_recorded c_translations c_length c_shift c_link c_chordMany c_lastMany c_bestMany c_bestStrokes c_triedMany c_triedStrokes c_planMany c_planStrokes c_madeMany c_madeStrokes c_isClear c_isPlanned a_text a_textMany a_texts) → va_S A s.heap H locs → lv_has ls 2 [(0, .ref q_this), (1, .int x1)] → W p l e jr_Model_suffix s m args below meth c H locs 0 0 Q (F0 m 5 ls []) := by
    intro n
    induction n with
    | zero => intro c_length c_shift c_link c_lastMany a_text H locs ls h; exact j_none (α := Int32 × Int32 × Int32 × Int32 × (Nat → Int32)) h
    | succ n ih =>
      intro c_length c_shift c_link c_lastMany a_text H locs ls h hP hD hS hl
      rw [jf_Model_suffix_b5] at h
      refine lv_aload_n hx hb dX11_suffix_5 rfl (lv_at hl 0 rfl) ?_
      refine va_get (D := E.1) (ci := 11) (v := .int c_lastMany) (C := RX11) (T := TX11) (N := 43) hx hb hts hin11 hown hK.1 hP 0 rfl rfl 22 (by decide) hk_156 (fun _ h9 => h9) rfl dX11_suffix_6 ?_
      refine lv_aload_n hx hb dX11_suffix_9 rfl (lv_at hl 0 rfl) ?_
      refine va_get (D := E.1) (ci := 11) (v := .int c_length) (C := RX11) (T := TX11) (N := 43) hx hb hts hin11 hown hK.1 hP 0 rfl rfl 17 (by decide) hk_130 (fun _ h9 => h9) rfl dX11_suffix_10 ?_
      refine lv_icmp_ge (tgt := 55) hx hb dX11_suffix_13 (by decide) (fun hq13 => ?_) (fun hq13 => ?_)
      · replace h := jif_t hq13 h
        exact kb55   c_length c_shift c_link c_lastMany a_text _ _ _ h hP hD hS (lv_sub hl [0, 1] rfl)
      · replace h := jif_f hq13 h
        refine lv_aload_n hx hb dX11_suffix_16 rfl (lv_at hl 0 rfl) ?_
        refine va_get (D := E.1) (ci := 11) (v := .ref q_text) (C := RX11) (T := TX11) (N := 43) hx hb hts hin11 hown hK.1 hP 0 rfl rfl 14 (by decide) hk_41 (fun _ h9 => h9) rfl dX11_suffix_17 ?_
        refine lv_aload_n hx hb dX11_suffix_20 rfl (lv_at hl 0 rfl) ?_
        refine va_get (D := E.1) (ci := 11) (v := .int c_length) (C := RX11) (T := TX11) (N := 43) hx hb hts hin11 hown hK.1 hP 0 rfl rfl 17 (by decide) hk_130 (fun _ h9 => h9) rfl dX11_suffix_21 ?_
        refine lv_iconst (v := 1) hx hb dX11_suffix_24 (by decide) ?_
        refine lv_isub hx hb dX11_suffix_25 ?_
        refine lv_aload_n hx hb dX11_suffix_26 rfl (lv_at hl 0 rfl) ?_
        refine va_get (D := E.1) (ci := 11) (v := .int c_lastMany) (C := RX11) (T := TX11) (N := 43) hx hb hts hin11 hown hK.1 hP 0 rfl rfl 22 (by decide) hk_156 (fun _ h9 => h9) rfl dX11_suffix_27 ?_
        refine lv_isub hx hb dX11_suffix_30 ?_
        obtain ⟨g31, h⟩ := jga_e h
        refine va_bald hx hb hK.1 hP 1 0 rfl rfl g31 dX11_suffix_31 ?_
        refine lv_sipush (v := 255) hx hb dX11_suffix_32 (by decide) ?_
        refine lv_iand hx hb dX11_suffix_35 ?_
        obtain ⟨r36, hf36, h⟩ := jbd h
        refine j_callSi (own := RX11) (As := [.int ((a_text ((c_length - 1) - c_lastMany).toNatClampNeg) &&& 255)]) (rest := []) hx hb hml hown hts hK hA hP hD hS (jc_Model_isLetter l E ((a_text ((c_length - 1) - c_lastMany).toNatClampNeg) &&& 255) N hf36) gX11_suffix_X11_isLetter rfl ⟨rfl, rfl⟩ 1 (by decide +kernel) rfl rfl [] [0, 1, 2, 3] [0, 1, 2, 3] rfl rfl rfl rfl rfl rfl rfl hl.1 rfl rfl dX11_suffix_36 (fun H locs hP hD hS => ?_)
        replace hP : va_P E.1 vwCl (jw_Model_suffix E q_this q_tape q_taken q_strokeMany q_kind q_textMany q_strokes q_texts q_record q_itsEntry q_itsFirst q_text q_lengthAhead q_lengthBehind q_chord q_asked q_way q_wayStrokes q_wayMany q_best q_tried q_plan q_made q_trial q_two c_taped c_entries c_recorded c_translations c_length c_shift c_link c_chordMany c_lastMany c_bestMany c_bestStrokes c_triedMany c_triedStrokes c_planMany c_planStrokes c_madeMany c_madeStrokes c_isClear c_isPlanned a_text a_textMany a_texts) H := hP
        replace hD : va_D A (jw_Model_suffix E q_this q_tape q_taken q_strokeMany q_kind q_textMany q_strokes q_texts q_record q_itsEntry q_itsFirst q_text q_lengthAhead q_lengthBehind q_chord q_asked q_way q_wayStrokes q_wayMany q_best q_tried q_plan q_made q_trial q_two c_taped c_entries c_recorded c_translations c_length c_shift c_link c_chordMany c_lastMany c_bestMany c_bestStrokes c_triedMany c_triedStrokes c_planMany c_planStrokes c_madeMany c_madeStrokes c_isClear c_isPlanned a_text a_textMany a_texts) := hD
        refine lv_if_eq (tgt := 55) hx hb dX11_suffix_39 (by decide) (fun hq39 => ?_) (fun hq39 => ?_)
        · replace h := jif_t hq39 h
          exact kb55   c_length c_shift c_link c_lastMany a_text _ _ _ h hP hD hS (lv_sub hl [0, 1] rfl)
        · replace h := jif_f hq39 h
          refine lv_aload_n hx hb dX11_suffix_42 rfl (lv_at hl 0 rfl) ?_
          refine lv_aload_n hx hb dX11_suffix_43 rfl (lv_at hl 0 rfl) ?_
          refine va_get (D := E.1) (ci := 11) (v := .int c_lastMany) (C := RX11) (T := TX11) (N := 43) hx hb hts hin11 hown hK.1 hP 0 rfl rfl 22 (by decide) hk_156 (fun _ h9 => h9) rfl dX11_suffix_44 ?_
          refine lv_iconst (v := 1) hx hb dX11_suffix_47 (by decide) ?_
          refine lv_iadd hx hb dX11_suffix_48 ?_
          refine va_put (D := E.1) (ci := 11) (v := .int (c_lastMany + 1)) (ty := .int) (C := RX11) (T := TX11) (N := 43) hx hb hts hin11 tyX11 tyX11_ok nmX11 hown hK.1 hP hD hS 0 rfl rfl 22 (by decide) hk_156 (fun _ h9 => h9) rfl (by decide +kernel) rfl rfl (Nat.le_of_ble_eq_true rfl) dX11_suffix_49 (fun H locs hP hD hS => ?_)
          replace hP : va_P E.1 vwCl (jw_Model_suffix E q_this q_tape q_taken q_strokeMany q_kind q_textMany q_strokes q_texts q_record q_itsEntry q_itsFirst q_text q_lengthAhead q_lengthBehind q_chord q_asked q_way q_wayStrokes q_wayMany q_best q_tried q_plan q_made q_trial q_two c_taped c_entries c_recorded c_translations c_length c_shift c_link c_chordMany (c_lastMany + 1) c_bestMany c_bestStrokes c_triedMany c_triedStrokes c_planMany c_planStrokes c_madeMany c_madeStrokes c_isClear c_isPlanned a_text a_textMany a_texts) H := hP
          replace hD : va_D A (jw_Model_suffix E q_this q_tape q_taken q_strokeMany q_kind q_textMany q_strokes q_texts q_record q_itsEntry q_itsFirst q_text q_lengthAhead q_lengthBehind q_chord q_asked q_way q_wayStrokes q_wayMany q_best q_tried q_plan q_made q_trial q_two c_taped c_entries c_recorded c_translations c_length c_shift c_link c_chordMany (c_lastMany + 1) c_bestMany c_bestStrokes c_triedMany c_triedStrokes c_planMany c_planStrokes c_madeMany c_madeStrokes c_isClear c_isPlanned a_text a_textMany a_texts) := hD
          refine lv_goto (tgt := 5) hx hb dX11_suffix_52 (by decide) ?_
          exact ih c_length c_shift c_link (c_lastMany + 1) a_text _ _ _ h hP hD hS (lv_sub hl [0, 1] rfl)
  unfold jf_Model_suffix at h
  refine lv_aload_n hx hb dX11_suffix_0 rfl (lv_at hl 0 rfl) ?_
  refine lv_iconst (v := 0) hx hb dX11_suffix_1 (by decide) ?_
  refine va_put (D := E.1) (ci := 11) (v := .int 0) (ty := .int) (C := RX11) (T := TX11) (N := 43) hx hb hts hin11 tyX11 tyX11_ok nmX11 hown hK.1 hP hD hS 0 rfl rfl 22 (by decide) hk_156 (fun _ h9 => h9) rfl (by decide +kernel) rfl rfl (Nat.le_of_ble_eq_true rfl) dX11_suffix_2 (fun H locs hP hD hS => ?_)
  replace hP : va_P E.1 vwCl (jw_Model_suffix E q_this q_tape q_taken q_strokeMany q_kind q_textMany q_strokes q_texts q_record q_itsEntry q_itsFirst q_text q_lengthAhead q_lengthBehind q_chord q_asked q_way q_wayStrokes q_wayMany q_best q_tried q_plan q_made q_trial q_two c_taped c_entries c_recorded c_translations c_length c_shift c_link c_chordMany 0 c_bestMany c_bestStrokes c_triedMany c_triedStrokes c_planMany c_planStrokes c_madeMany c_madeStrokes c_isClear c_isPlanned a_text a_textMany a_texts) H := hP
  replace hD : va_D A (jw_Model_suffix E q_this q_tape q_taken q_strokeMany q_kind q_textMany q_strokes q_texts q_record q_itsEntry q_itsFirst q_text q_lengthAhead q_lengthBehind q_chord q_asked q_way q_wayStrokes q_wayMany q_best q_tried q_plan q_made q_trial q_two c_taped c_entries c_recorded c_translations c_length c_shift c_link c_chordMany 0 c_bestMany c_bestStrokes c_triedMany c_triedStrokes c_planMany c_planStrokes c_madeMany c_madeStrokes c_isClear c_isPlanned a_text a_textMany a_texts) := hD
  exact kb5  N c_length c_shift c_link 0 a_text _ _ _ h hP hD hS (lv_sub hl [0, 1] rfl)
