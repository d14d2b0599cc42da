abbrev jw_Page_writeEntry (E : jE) (q_this q_book q_bytes q_book_kinds q_book_strokeCounts q_book_strokes q_book_lengths q_book_letters : Nat) (n_bytes : Nat) (c_size : Int32) (c_shift : Int32) (c_link : Int32) (c_lastWordLength : Int32) (c_lastWordVowels : Int32) (c_book_size : Int32) (a_book_kinds : (Nat → Int32)) (a_book_lengths : (Nat → Int32)) (a_book_letters : (Nat → Int32)) (a_bytes : (Nat → Int32)) : va_W := [(q_this, .inr (4, [.ref q_book, .ref q_bytes, .int c_size, .int c_shift, .int c_link, .int c_lastWordLength, .int c_lastWordVowels])), (q_book, .inr (0, [.ref q_book_kinds, .ref q_book_strokeCounts, .ref q_book_strokes, .ref q_book_lengths, .ref q_book_letters, .int c_book_size])), (q_book_kinds, .inl (E.2.2.1, 60, .inl a_book_kinds)), (q_book_lengths, .inl (E.2.2.1, 60, .inl a_book_lengths)), (q_book_letters, .inl (E.2.1, 960, .inl a_book_letters)), (q_bytes, .inl (E.2.1, n_bytes, .inl a_bytes))]
def jr_Page_writeEntry : Room := { frames := 3, cells := 0, slots := 0, locals := 72 }
set_option maxHeartbeats 4000000 in
set_option maxRecDepth 100000 in
theorem jc_Page_writeEntry (l : Launch) (E : jE) (q_this q_book q_bytes q_book_kinds q_book_strokeCounts q_book_strokes q_book_lengths q_book_letters : Nat) (n_bytes : Nat) (c_size : Int32) (c_shift : Int32) (c_link : Int32) (c_lastWordLength : Int32) (c_lastWordVowels : Int32) (c_book_size : Int32) (a_book_kinds : (Nat → Int32)) (a_book_lengths : (Nat → Int32)) (a_book_letters : (Nat → Int32)) (a_bytes : (Nat → Int32)) (x1 : Int32) (x2 : Int32) (N : Nat) {T : Int32 × Int32 × Int32 × Int32 × Int32 × (Nat → Int32)} (h : jf_Page_writeEntry N x1 x2 n_bytes c_book_size a_book_kinds a_book_lengths a_book_letters c_size c_shift c_link c_lastWordLength c_lastWordVowels a_bytes = some T) : jMv l yX4_writeEntry wsX4_writeEntry jr_Page_writeEntry E [.ref q_this, .int x1, .int x2] (jw_Page_writeEntry E q_this q_book q_bytes q_book_kinds q_book_strokeCounts q_book_strokes q_book_lengths q_book_letters n_bytes c_size c_shift c_link c_lastWordLength c_lastWordVowels c_book_size a_book_kinds a_book_lengths a_book_letters a_bytes) (jw_Page_writeEntry E q_this q_book q_bytes q_book_kinds q_book_strokeCounts q_book_strokes q_book_lengths q_book_letters n_bytes T.1 T.2.1 T.2.2.1 T.2.2.2.1 T.2.2.2.2.1 c_book_size a_book_kinds a_book_lengths a_book_letters T.2.2.2.2.2) := by
  refine jMv.begin (cc := cX4_writeEntry) (maxL := 3) (ret := none) (by decide) rfl (Nat.le_of_ble_eq_true rfl) ?_
  intro p e s m args below meth c A ls Q hQ hx hb hr hml hown hlocks hts hK hA hP hD hS hl
  replace hown : s.vm.findClass RX4 = some m.cls := hown
  replace hl : lv_has ls 3 [(0, .ref q_this), (1, .int x1), (2, .int x2)] := hl
  have hin4 : ∀ w ∈ u_ws RX4 TX4 7, w ∈ wsX4_writeEntry := by decide +kernel
  have hk_9 := hts (.fieldLink RX4 9 "StenoRoom$Page" "book" "LStenoRoom$Book;") (by decide +kernel)
  have hk_29 := hts (.fieldLink RX4 29 "StenoRoom$Page" "shift" "I") (by decide +kernel)
  have hk_32 := hts (.fieldLink RX4 32 "StenoRoom$Page" "link" "I") (by decide +kernel)
  have kb117 : ∀ (z1 : Int32) (c_size : Int32) (c_shift : Int32) (c_link : Int32) (c_lastWordLength : Int32) (c_lastWordVowels : Int32) (a_bytes : (Nat → Int32)) (H : Heap) (locs : List Loc) (ls : Array Slot), jf_Page_writeEntry_b117 N x1 n_bytes c_book_size a_book_lengths a_book_letters z1 c_size c_shift c_link c_lastWordLength c_lastWordVowels a_bytes = some T → va_P E.1 vwCl (jw_Page_writeEntry E q_this q_book q_bytes q_book_kinds q_book_strokeCounts q_book_strokes q_book_lengths q_book_letters n_bytes c_size c_shift c_link c_lastWordLength c_lastWordVowels c_book_size a_book_kinds a_book_lengths a_book_letters a_bytes) H → va_D A (jw_Page_writeEntry E q_this q_book q_bytes q_book_kinds q_book_strokeCounts q_book_strokes q_book_lengths q_book_letters n_bytes c_size c_shift c_link c_lastWordLength c_lastWordVowels c_book_size a_book_kinds a_book_lengths a_book_letters a_bytes) → va_S A s.heap H locs → lv_has ls 3 [(0, .ref q_this), (1, .int x1)] → W p l e jr_Page_writeEntry s m args below meth c H locs 0 0 Q (F0 m 117 ls [.int z1, .ref q_this]) := by
    intro  z1 c_size c_shift c_link c_lastWordLength c_lastWordVowels a_bytes H locs ls h hP hD hS hl
    unfold jf_Page_writeEntry_b117 at h
    refine va_put (D := E.1) (ci := 4) (v := .int z1) (ty := .int) (C := RX4) (T := TX4) (N := 7) hx hb hts hin4 tyX4 tyX4_ok nmX4 hown hK.1 hP hD hS 0 rfl rfl 4 (by decide) hk_32 (fun _ h9 => h9) rfl (by decide +kernel) rfl rfl (Nat.le_of_ble_eq_true rfl) dX4_writeEntry_117 (fun H locs hP hD hS => ?_)
    replace hP : va_P E.1 vwCl (jw_Page_writeEntry E q_this q_book q_bytes q_book_kinds q_book_strokeCounts q_book_strokes q_book_lengths q_book_letters n_bytes c_size c_shift z1 c_lastWordLength c_lastWordVowels c_book_size a_book_kinds a_book_lengths a_book_letters a_bytes) H := hP
    replace hD : va_D A (jw_Page_writeEntry E q_this q_book q_bytes q_book_kinds q_book_strokeCounts q_book_strokes q_book_lengths q_book_letters n_bytes c_size c_shift z1 c_lastWordLength c_lastWordVowels c_book_size a_book_kinds a_book_lengths a_book_letters a_bytes) := hD
    refine lv_aload_n hx hb dX4_writeEntry_120 rfl (lv_at hl 0 rfl) ?_
    refine lv_iload_n hx hb dX4_writeEntry_121 rfl (lv_at hl 1 rfl) ?_
    obtain ⟨⟨c_size_122, c_shift_122, c_link_122, a_bytes_122⟩, hf122, h⟩ := jbd h
    refine j_callVv (own := RX4) (As := [.int x1]) (rest := []) hx hb hml hown hts hK hA hP hD hS (jc_Page_writeText l E q_this q_book q_bytes q_book_kinds q_book_strokeCounts q_book_strokes q_book_lengths q_book_letters n_bytes c_size c_shift z1 c_lastWordLength c_lastWordVowels c_book_size a_book_lengths a_book_letters a_bytes x1 N hf122) gX4_writeEntry_X4_writeText rfl ⟨rfl, rfl⟩ 1 (by decide +kernel) rfl rfl 0 4 rfl rfl [0, 1, 3, 4, 5] [2] [1, 2, 0, 3, 4, 5] rfl rfl rfl rfl rfl rfl rfl hl.1 rfl rfl dX4_writeEntry_122 (fun H locs hP hD hS => ?_)
    replace hP : va_P E.1 vwCl (jw_Page_writeEntry E q_this q_book q_bytes q_book_kinds q_book_strokeCounts q_book_strokes q_book_lengths q_book_letters n_bytes c_size_122 c_shift_122 c_link_122 c_lastWordLength c_lastWordVowels c_book_size a_book_kinds a_book_lengths a_book_letters a_bytes_122) H := hP
    replace hD : va_D A (jw_Page_writeEntry E q_this q_book q_bytes q_book_kinds q_book_strokeCounts q_book_strokes q_book_lengths q_book_letters n_bytes c_size_122 c_shift_122 c_link_122 c_lastWordLength c_lastWordVowels c_book_size a_book_kinds a_book_lengths a_book_letters a_bytes_122) := hD
    refine lv_goto (tgt := 173) hx hb dX4_writeEntry_125 (by decide) ?_
    exact j_vret (u := (c_size_122, c_shift_122, c_link_122, c_lastWordLength, c_lastWordVowels, a_bytes_122)) (wv := (fun T => (jw_Page_writeEntry E q_this q_book q_bytes q_book_kinds q_book_strokeCounts q_book_strokes q_book_lengths q_book_letters n_bytes T.1 T.2.1 T.2.2.1 T.2.2.2.1 T.2.2.2.2.1 c_book_size a_book_kinds a_book_lengths a_book_letters T.2.2.2.2.2))) h hQ hx hb hr hlocks hS hP hD dX4_writeEntry_173
  unfold jf_Page_writeEntry at h
  refine lv_aload_n hx hb dX4_writeEntry_0 rfl (lv_at hl 0 rfl) ?_
  refine va_get (D := E.1) (ci := 4) (v := .ref q_book) (C := RX4) (T := TX4) (N := 7) hx hb hts hin4 hown hK.1 hP 0 rfl rfl 0 (by decide) hk_9 (fun _ h9 => h9) rfl dX4_writeEntry_1 ?_
  refine lv_iload_n hx hb dX4_writeEntry_4 rfl (lv_at hl 1 rfl) ?_
  obtain ⟨r5, hf5, h⟩ := jbd h
  refine j_callVi (own := RX4) (As := [.int x1]) (rest := []) hx hb hml hown hts hK hA hP hD hS (jc_Book_kindOf l E q_book q_book_kinds q_book_strokeCounts q_book_strokes q_book_lengths q_book_letters c_book_size a_book_kinds x1 N hf5) gX4_writeEntry_X0_kindOf rfl ⟨rfl, rfl⟩ 1 (by decide +kernel) rfl rfl 1 0 rfl rfl [1, 2] [0, 3, 4, 5] [0, 4, 5, 1, 2, 3] rfl rfl rfl rfl rfl rfl rfl hl.1 rfl rfl dX4_writeEntry_5 (fun H locs hP hD hS => ?_)
  replace hP : va_P E.1 vwCl (jw_Page_writeEntry E q_this q_book q_bytes q_book_kinds q_book_strokeCounts q_book_strokes q_book_lengths q_book_letters n_bytes c_size c_shift c_link c_lastWordLength c_lastWordVowels c_book_size a_book_kinds a_book_lengths a_book_letters a_bytes) H := hP
  replace hD : va_D A (jw_Page_writeEntry E q_this q_book q_bytes q_book_kinds q_book_strokeCounts q_book_strokes q_book_lengths q_book_letters n_bytes c_size c_shift c_link c_lastWordLength c_lastWordVowels c_book_size a_book_kinds a_book_lengths a_book_letters a_bytes) := hD
  by_cases hq8_0 : r5 = 0
  · replace h := jif_t hq8_0 h
    refine lv_tableIn (off := 52) (tgt := 60) hx hb dX4_writeEntry_8 (by rw [hq8_0]; decide) (by rw [hq8_0]; decide) (by rw [hq8_0]; rfl) (by decide) ?_
    refine lv_aload_n hx hb dX4_writeEntry_60 rfl (lv_at hl 0 rfl) ?_
    refine lv_iload_n hx hb dX4_writeEntry_61 rfl (lv_at hl 1 rfl) ?_
    obtain ⟨⟨c_size_62, c_shift_62, c_link_62, a_bytes_62⟩, hf62, h⟩ := jbd h
    refine j_callVv (own := RX4) (As := [.int x1]) (rest := []) hx hb hml hown hts hK hA hP hD hS (jc_Page_writeText l E q_this q_book q_bytes q_book_kinds q_book_strokeCounts q_book_strokes q_book_lengths q_book_letters n_bytes c_size c_shift c_link c_lastWordLength c_lastWordVowels c_book_size a_book_lengths a_book_letters a_bytes x1 N hf62) gX4_writeEntry_X4_writeText rfl ⟨rfl, rfl⟩ 1 (by decide +kernel) rfl rfl 0 4 rfl rfl [0, 1, 3, 4, 5] [2] [1, 2, 0, 3, 4, 5] rfl rfl rfl rfl rfl rfl rfl hl.1 rfl rfl dX4_writeEntry_62 (fun H locs hP hD hS => ?_)
    replace hP : va_P E.1 vwCl (jw_Page_writeEntry E q_this q_book q_bytes q_book_kinds q_book_strokeCounts q_book_strokes q_book_lengths q_book_letters n_bytes c_size_62 c_shift_62 c_link_62 c_lastWordLength c_lastWordVowels c_book_size a_book_kinds a_book_lengths a_book_letters a_bytes_62) H := hP
    replace hD : va_D A (jw_Page_writeEntry E q_this q_book q_bytes q_book_kinds q_book_strokeCounts q_book_strokes q_book_lengths q_book_letters n_bytes c_size_62 c_shift_62 c_link_62 c_lastWordLength c_lastWordVowels c_book_size a_book_kinds a_book_lengths a_book_letters a_bytes_62) := hD
    refine lv_goto (tgt := 173) hx hb dX4_writeEntry_65 (by decide) ?_
    exact j_vret (u := (c_size_62, c_shift_62, c_link_62, c_lastWordLength, c_lastWordVowels, a_bytes_62)) (wv := (fun T => (jw_Page_writeEntry E q_this q_book q_bytes q_book_kinds q_book_strokeCounts q_book_strokes q_book_lengths q_book_letters n_bytes T.1 T.2.1 T.2.2.1 T.2.2.2.1 T.2.2.2.2.1 c_book_size a_book_kinds a_book_lengths a_book_letters T.2.2.2.2.2))) h hQ hx hb hr hlocks hS hP hD dX4_writeEntry_173
  replace h := jif_f hq8_0 h
  by_cases hq8_1 : r5 = 1
  · replace h := jif_t hq8_1 h
    refine lv_tableIn (off := 60) (tgt := 68) hx hb dX4_writeEntry_8 (by rw [hq8_1]; decide) (by rw [hq8_1]; decide) (by rw [hq8_1]; rfl) (by decide) ?_
    refine lv_aload_n hx hb dX4_writeEntry_68 rfl (lv_at hl 0 rfl) ?_
    refine lv_iload_n hx hb dX4_writeEntry_69 rfl (lv_at hl 1 rfl) ?_
    obtain ⟨⟨c_size_70, c_shift_70, c_link_70, a_bytes_70⟩, hf70, h⟩ := jbd h
    refine j_callVv (own := RX4) (As := [.int x1]) (rest := []) hx hb hml hown hts hK hA hP hD hS (jc_Page_writeText l E q_this q_book q_bytes q_book_kinds q_book_strokeCounts q_book_strokes q_book_lengths q_book_letters n_bytes c_size c_shift c_link c_lastWordLength c_lastWordVowels c_book_size a_book_lengths a_book_letters a_bytes x1 N hf70) gX4_writeEntry_X4_writeText rfl ⟨rfl, rfl⟩ 1 (by decide +kernel) rfl rfl 0 4 rfl rfl [0, 1, 3, 4, 5] [2] [1, 2, 0, 3, 4, 5] rfl rfl rfl rfl rfl rfl rfl hl.1 rfl rfl dX4_writeEntry_70 (fun H locs hP hD hS => ?_)
    replace hP : va_P E.1 vwCl (jw_Page_writeEntry E q_this q_book q_bytes q_book_kinds q_book_strokeCounts q_book_strokes q_book_lengths q_book_letters n_bytes c_size_70 c_shift_70 c_link_70 c_lastWordLength c_lastWordVowels c_book_size a_book_kinds a_book_lengths a_book_letters a_bytes_70) H := hP
    replace hD : va_D A (jw_Page_writeEntry E q_this q_book q_bytes q_book_kinds q_book_strokeCounts q_book_strokes q_book_lengths q_book_letters n_bytes c_size_70 c_shift_70 c_link_70 c_lastWordLength c_lastWordVowels c_book_size a_book_kinds a_book_lengths a_book_letters a_bytes_70) := hD
    refine lv_aload_n hx hb dX4_writeEntry_73 rfl (lv_at hl 0 rfl) ?_
    refine lv_iconst (v := 1) hx hb dX4_writeEntry_74 (by decide) ?_
    refine va_put (D := E.1) (ci := 4) (v := .int 1) (ty := .int) (C := RX4) (T := TX4) (N := 7) hx hb hts hin4 tyX4 tyX4_ok nmX4 hown hK.1 hP hD hS 0 rfl rfl 4 (by decide) hk_32 (fun _ h9 => h9) rfl (by decide +kernel) rfl rfl (Nat.le_of_ble_eq_true rfl) dX4_writeEntry_75 (fun H locs hP hD hS => ?_)
    replace hP : va_P E.1 vwCl (jw_Page_writeEntry E q_this q_book q_bytes q_book_kinds q_book_strokeCounts q_book_strokes q_book_lengths q_book_letters n_bytes c_size_70 c_shift_70 1 c_lastWordLength c_lastWordVowels c_book_size a_book_kinds a_book_lengths a_book_letters a_bytes_70) H := hP
    replace hD : va_D A (jw_Page_writeEntry E q_this q_book q_bytes q_book_kinds q_book_strokeCounts q_book_strokes q_book_lengths q_book_letters n_bytes c_size_70 c_shift_70 1 c_lastWordLength c_lastWordVowels c_book_size a_book_kinds a_book_lengths a_book_letters a_bytes_70) := hD
    refine lv_goto (tgt := 173) hx hb dX4_writeEntry_78 (by decide) ?_
    exact j_vret (u := (c_size_70, c_shift_70, 1, c_lastWordLength, c_lastWordVowels, a_bytes_70)) (wv := (fun T => (jw_Page_writeEntry E q_this q_book q_bytes q_book_kinds q_book_strokeCounts q_book_strokes q_book_lengths q_book_letters n_bytes T.1 T.2.1 T.2.2.1 T.2.2.2.1 T.2.2.2.2.1 c_book_size a_book_kinds a_book_lengths a_book_letters T.2.2.2.2.2))) h hQ hx hb hr hlocks hS hP hD dX4_writeEntry_173
  replace h := jif_f hq8_1 h
  by_cases hq8_2 : r5 = 2
  · replace h := jif_t hq8_2 h
    refine lv_tableIn (off := 73) (tgt := 81) hx hb dX4_writeEntry_8 (by rw [hq8_2]; decide) (by rw [hq8_2]; decide) (by rw [hq8_2]; rfl) (by decide) ?_
    refine lv_aload_n hx hb dX4_writeEntry_81 rfl (lv_at hl 0 rfl) ?_
    obtain ⟨r82, hf82, h⟩ := jbd h
    refine j_callVi (own := RX4) (As := []) (rest := []) hx hb hml hown hts hK hA hP hD hS (jc_Page_endsByLetter l E q_this q_book q_bytes n_bytes c_size c_shift c_link c_lastWordLength c_lastWordVowels a_bytes N hf82) gX4_writeEntry_X4_endsByLetter rfl ⟨rfl, rfl⟩ 0 (by decide +kernel) rfl rfl 0 4 rfl rfl [0, 5] [1, 2, 3, 4] [4, 0, 1, 2, 3, 5] rfl rfl rfl rfl rfl rfl rfl hl.1 rfl rfl dX4_writeEntry_82 (fun H locs hP hD hS => ?_)
    replace hP : va_P E.1 vwCl (jw_Page_writeEntry E q_this q_book q_bytes q_book_kinds q_book_strokeCounts q_book_strokes q_book_lengths q_book_letters n_bytes c_size c_shift c_link c_lastWordLength c_lastWordVowels c_book_size a_book_kinds a_book_lengths a_book_letters a_bytes) H := hP
    replace hD : va_D A (jw_Page_writeEntry E q_this q_book q_bytes q_book_kinds q_book_strokeCounts q_book_strokes q_book_lengths q_book_letters n_bytes c_size c_shift c_link c_lastWordLength c_lastWordVowels c_book_size a_book_kinds a_book_lengths a_book_letters a_bytes) := hD
    refine lv_if_eq (tgt := 96) hx hb dX4_writeEntry_85 (by decide) (fun hq85 => ?_) (fun hq85 => ?_)
    · replace h := jif_t hq85 h
      refine lv_aload_n hx hb dX4_writeEntry_96 rfl (lv_at hl 0 rfl) ?_
      refine lv_iload_n hx hb dX4_writeEntry_97 rfl (lv_at hl 1 rfl) ?_
      obtain ⟨⟨c_size_98, c_shift_98, c_link_98, a_bytes_98⟩, hf98, h⟩ := jbd h
      refine j_callVv (own := RX4) (As := [.int x1]) (rest := []) hx hb hml hown hts hK hA hP hD hS (jc_Page_writeText l E q_this q_book q_bytes q_book_kinds q_book_strokeCounts q_book_strokes q_book_lengths q_book_letters n_bytes c_size c_shift c_link c_lastWordLength c_lastWordVowels c_book_size a_book_lengths a_book_letters a_bytes x1 N hf98) gX4_writeEntry_X4_writeText rfl ⟨rfl, rfl⟩ 1 (by decide +kernel) rfl rfl 0 4 rfl rfl [0, 1, 3, 4, 5] [2] [1, 2, 0, 3, 4, 5] rfl rfl rfl rfl rfl rfl rfl hl.1 rfl rfl dX4_writeEntry_98 (fun H locs hP hD hS => ?_)
      replace hP : va_P E.1 vwCl (jw_Page_writeEntry E q_this q_book q_bytes q_book_kinds q_book_strokeCounts q_book_strokes q_book_lengths q_book_letters n_bytes c_size_98 c_shift_98 c_link_98 c_lastWordLength c_lastWordVowels c_book_size a_book_kinds a_book_lengths a_book_letters a_bytes_98) H := hP
      replace hD : va_D A (jw_Page_writeEntry E q_this q_book q_bytes q_book_kinds q_book_strokeCounts q_book_strokes q_book_lengths q_book_letters n_bytes c_size_98 c_shift_98 c_link_98 c_lastWordLength c_lastWordVowels c_book_size a_book_kinds a_book_lengths a_book_letters a_bytes_98) := hD
      refine lv_goto (tgt := 173) hx hb dX4_writeEntry_101 (by decide) ?_
      exact j_vret (u := (c_size_98, c_shift_98, c_link_98, c_lastWordLength, c_lastWordVowels, a_bytes_98)) (wv := (fun T => (jw_Page_writeEntry E q_this q_book q_bytes q_book_kinds q_book_strokeCounts q_book_strokes q_book_lengths q_book_letters n_bytes T.1 T.2.1 T.2.2.1 T.2.2.2.1 T.2.2.2.2.1 c_book_size a_book_kinds a_book_lengths a_book_letters T.2.2.2.2.2))) h hQ hx hb hr hlocks hS hP hD dX4_writeEntry_173
    · replace h := jif_f hq85 h
      refine lv_aload_n hx hb dX4_writeEntry_88 rfl (lv_at hl 0 rfl) ?_
      refine lv_iload_n hx hb dX4_writeEntry_89 rfl (lv_at hl 1 rfl) ?_
      obtain ⟨⟨c_size_90, c_link_90, c_lastWordLength_90, c_lastWordVowels_90, a_bytes_90⟩, hf90, h⟩ := jbd h
      refine j_callVv (own := RX4) (As := [.int x1]) (rest := []) hx hb hml hown hts hK hA hP hD hS (jc_Page_joinSuffix l E q_this q_book q_bytes q_book_kinds q_book_strokeCounts q_book_strokes q_book_lengths q_book_letters n_bytes c_size c_shift c_link c_lastWordLength c_lastWordVowels c_book_size a_book_lengths a_book_letters a_bytes x1 N hf90) gX4_writeEntry_X4_joinSuffix rfl ⟨rfl, rfl⟩ 1 (by decide +kernel) rfl rfl 0 4 rfl rfl [0, 1, 3, 4, 5] [2] [1, 2, 0, 3, 4, 5] rfl rfl rfl rfl rfl rfl rfl hl.1 rfl rfl dX4_writeEntry_90 (fun H locs hP hD hS => ?_)
      replace hP : va_P E.1 vwCl (jw_Page_writeEntry E q_this q_book q_bytes q_book_kinds q_book_strokeCounts q_book_strokes q_book_lengths q_book_letters n_bytes c_size_90 c_shift c_link_90 c_lastWordLength_90 c_lastWordVowels_90 c_book_size a_book_kinds a_book_lengths a_book_letters a_bytes_90) H := hP
      replace hD : va_D A (jw_Page_writeEntry E q_this q_book q_bytes q_book_kinds q_book_strokeCounts q_book_strokes q_book_lengths q_book_letters n_bytes c_size_90 c_shift c_link_90 c_lastWordLength_90 c_lastWordVowels_90 c_book_size a_book_kinds a_book_lengths a_book_letters a_bytes_90) := hD
      refine lv_goto (tgt := 173) hx hb dX4_writeEntry_93 (by decide) ?_
      exact j_vret (u := (c_size_90, c_shift, c_link_90, c_lastWordLength_90, c_lastWordVowels_90, a_bytes_90)) (wv := (fun T => (jw_Page_writeEntry E q_this q_book q_bytes q_book_kinds q_book_strokeCounts q_book_strokes q_book_lengths q_book_letters n_bytes T.1 T.2.1 T.2.2.1 T.2.2.2.1 T.2.2.2.2.1 c_book_size a_book_kinds a_book_lengths a_book_letters T.2.2.2.2.2))) h hQ hx hb hr hlocks hS hP hD dX4_writeEntry_173
  replace h := jif_f hq8_2 h
  by_cases hq8_3 : r5 = 3
  · replace h := jif_t hq8_3 h
    refine lv_tableIn (off := 120) (tgt := 128) hx hb dX4_writeEntry_8 (by rw [hq8_3]; decide) (by rw [hq8_3]; decide) (by rw [hq8_3]; rfl) (by decide) ?_
    refine lv_aload_n hx hb dX4_writeEntry_128 rfl (lv_at hl 0 rfl) ?_
    refine lv_iload_n hx hb dX4_writeEntry_129 rfl (lv_at hl 1 rfl) ?_
    obtain ⟨⟨c_size_130, c_link_130, a_bytes_130⟩, hf130, h⟩ := jbd h
    refine j_callVv (own := RX4) (As := [.int x1]) (rest := []) hx hb hml hown hts hK hA hP hD hS (jc_Page_writeMark l E q_this q_book q_bytes q_book_kinds q_book_strokeCounts q_book_strokes q_book_lengths q_book_letters n_bytes c_size c_shift c_link c_lastWordLength c_lastWordVowels c_book_size a_book_lengths a_book_letters a_bytes x1 N hf130) gX4_writeEntry_X4_writeMark rfl ⟨rfl, rfl⟩ 1 (by decide +kernel) rfl rfl 0 4 rfl rfl [0, 1, 3, 4, 5] [2] [1, 2, 0, 3, 4, 5] rfl rfl rfl rfl rfl rfl rfl hl.1 rfl rfl dX4_writeEntry_130 (fun H locs hP hD hS => ?_)
    replace hP : va_P E.1 vwCl (jw_Page_writeEntry E q_this q_book q_bytes q_book_kinds q_book_strokeCounts q_book_strokes q_book_lengths q_book_letters n_bytes c_size_130 c_shift c_link_130 c_lastWordLength c_lastWordVowels c_book_size a_book_kinds a_book_lengths a_book_letters a_bytes_130) H := hP
    replace hD : va_D A (jw_Page_writeEntry E q_this q_book q_bytes q_book_kinds q_book_strokeCounts q_book_strokes q_book_lengths q_book_letters n_bytes c_size_130 c_shift c_link_130 c_lastWordLength c_lastWordVowels c_book_size a_book_kinds a_book_lengths a_book_letters a_bytes_130) := hD
    refine lv_aload_n hx hb dX4_writeEntry_133 rfl (lv_at hl 0 rfl) ?_
    refine lv_iconst (v := 1) hx hb dX4_writeEntry_134 (by decide) ?_
    refine va_put (D := E.1) (ci := 4) (v := .int 1) (ty := .int) (C := RX4) (T := TX4) (N := 7) hx hb hts hin4 tyX4 tyX4_ok nmX4 hown hK.1 hP hD hS 0 rfl rfl 3 (by decide) hk_29 (fun _ h9 => h9) rfl (by decide +kernel) rfl rfl (Nat.le_of_ble_eq_true rfl) dX4_writeEntry_135 (fun H locs hP hD hS => ?_)
    replace hP : va_P E.1 vwCl (jw_Page_writeEntry E q_this q_book q_bytes q_book_kinds q_book_strokeCounts q_book_strokes q_book_lengths q_book_letters n_bytes c_size_130 1 c_link_130 c_lastWordLength c_lastWordVowels c_book_size a_book_kinds a_book_lengths a_book_letters a_bytes_130) H := hP
    replace hD : va_D A (jw_Page_writeEntry E q_this q_book q_bytes q_book_kinds q_book_strokeCounts q_book_strokes q_book_lengths q_book_letters n_bytes c_size_130 1 c_link_130 c_lastWordLength c_lastWordVowels c_book_size a_book_kinds a_book_lengths a_book_letters a_bytes_130) := hD
    refine lv_goto (tgt := 173) hx hb dX4_writeEntry_138 (by decide) ?_
    exact j_vret (u := (c_size_130, 1, c_link_130, c_lastWordLength, c_lastWordVowels, a_bytes_130)) (wv := (fun T => (jw_Page_writeEntry E q_this q_book q_bytes q_book_kinds q_book_strokeCounts q_book_strokes q_book_lengths q_book_letters n_bytes T.1 T.2.1 T.2.2.1 T.2.2.2.1 T.2.2.2.2.1 c_book_size a_book_kinds a_book_lengths a_book_letters T.2.2.2.2.2))) h hQ hx hb hr hlocks hS hP hD dX4_writeEntry_173
  replace h := jif_f hq8_3 h
  by_cases hq8_4 : r5 = 4
  · replace h := jif_t hq8_4 h
    refine lv_tableIn (off := 133) (tgt := 141) hx hb dX4_writeEntry_8 (by rw [hq8_4]; decide) (by rw [hq8_4]; decide) (by rw [hq8_4]; rfl) (by decide) ?_
    refine lv_aload_n hx hb dX4_writeEntry_141 rfl (lv_at hl 0 rfl) ?_
    refine lv_iload_n hx hb dX4_writeEntry_142 rfl (lv_at hl 1 rfl) ?_
    obtain ⟨⟨c_size_143, c_link_143, a_bytes_143⟩, hf143, h⟩ := jbd h
    refine j_callVv (own := RX4) (As := [.int x1]) (rest := []) hx hb hml hown hts hK hA hP hD hS (jc_Page_writeMark l E q_this q_book q_bytes q_book_kinds q_book_strokeCounts q_book_strokes q_book_lengths q_book_letters n_bytes c_size c_shift c_link c_lastWordLength c_lastWordVowels c_book_size a_book_lengths a_book_letters a_bytes x1 N hf143) gX4_writeEntry_X4_writeMark rfl ⟨rfl, rfl⟩ 1 (by decide +kernel) rfl rfl 0 4 rfl rfl [0, 1, 3, 4, 5] [2] [1, 2, 0, 3, 4, 5] rfl rfl rfl rfl rfl rfl rfl hl.1 rfl rfl dX4_writeEntry_143 (fun H locs hP hD hS => ?_)
    replace hP : va_P E.1 vwCl (jw_Page_writeEntry E q_this q_book q_bytes q_book_kinds q_book_strokeCounts q_book_strokes q_book_lengths q_book_letters n_bytes c_size_143 c_shift c_link_143 c_lastWordLength c_lastWordVowels c_book_size a_book_kinds a_book_lengths a_book_letters a_bytes_143) H := hP
    replace hD : va_D A (jw_Page_writeEntry E q_this q_book q_bytes q_book_kinds q_book_strokeCounts q_book_strokes q_book_lengths q_book_letters n_bytes c_size_143 c_shift c_link_143 c_lastWordLength c_lastWordVowels c_book_size a_book_kinds a_book_lengths a_book_letters a_bytes_143) := hD
    refine lv_goto (tgt := 173) hx hb dX4_writeEntry_146 (by decide) ?_
    exact j_vret (u := (c_size_143, c_shift, c_link_143, c_lastWordLength, c_lastWordVowels, a_bytes_143)) (wv := (fun T => (jw_Page_writeEntry E q_this q_book q_bytes q_book_kinds q_book_strokeCounts q_book_strokes q_book_lengths q_book_letters n_bytes T.1 T.2.1 T.2.2.1 T.2.2.2.1 T.2.2.2.2.1 c_book_size a_book_kinds a_book_lengths a_book_letters T.2.2.2.2.2))) h hQ hx hb hr hlocks hS hP hD dX4_writeEntry_173
  replace h := jif_f hq8_4 h
  by_cases hq8_5 : r5 = 5
  · replace h := jif_t hq8_5 h
    refine lv_tableIn (off := 96) (tgt := 104) hx hb dX4_writeEntry_8 (by rw [hq8_5]; decide) (by rw [hq8_5]; decide) (by rw [hq8_5]; rfl) (by decide) ?_
    refine lv_aload_n hx hb dX4_writeEntry_104 rfl (lv_at hl 0 rfl) ?_
    refine lv_iload_n hx hb dX4_writeEntry_105 rfl (lv_at hl 2 rfl) ?_
    refine lv_if_eq (tgt := 113) hx hb dX4_writeEntry_106 (by decide) (fun hq106 => ?_) (fun hq106 => ?_)
    · replace h := jif_t hq106 h
      refine lv_aload_n hx hb dX4_writeEntry_113 rfl (lv_at hl 0 rfl) ?_
      refine va_get (D := E.1) (ci := 4) (v := .int c_link) (C := RX4) (T := TX4) (N := 7) hx hb hts hin4 hown hK.1 hP 0 rfl rfl 4 (by decide) hk_32 (fun _ h9 => h9) rfl dX4_writeEntry_114 ?_
      exact kb117   c_link c_size c_shift c_link c_lastWordLength c_lastWordVowels a_bytes _ _ _ h hP hD hS (lv_sub hl [0, 1] rfl)
    · replace h := jif_f hq106 h
      refine lv_iconst (v := 1) hx hb dX4_writeEntry_109 (by decide) ?_
      refine lv_goto (tgt := 117) hx hb dX4_writeEntry_110 (by decide) ?_
      exact kb117   1 c_size c_shift c_link c_lastWordLength c_lastWordVowels a_bytes _ _ _ h hP hD hS (lv_sub hl [0, 1] rfl)
  replace h := jif_f hq8_5 h
  by_cases hq8_6 : r5 = 6
  · replace h := jif_t hq8_6 h
    refine lv_tableIn (off := 141) (tgt := 149) hx hb dX4_writeEntry_8 (by rw [hq8_6]; decide) (by rw [hq8_6]; decide) (by rw [hq8_6]; rfl) (by decide) ?_
    refine lv_aload_n hx hb dX4_writeEntry_149 rfl (lv_at hl 0 rfl) ?_
    refine lv_iconst (v := 1) hx hb dX4_writeEntry_150 (by decide) ?_
    refine va_put (D := E.1) (ci := 4) (v := .int 1) (ty := .int) (C := RX4) (T := TX4) (N := 7) hx hb hts hin4 tyX4 tyX4_ok nmX4 hown hK.1 hP hD hS 0 rfl rfl 3 (by decide) hk_29 (fun _ h9 => h9) rfl (by decide +kernel) rfl rfl (Nat.le_of_ble_eq_true rfl) dX4_writeEntry_151 (fun H locs hP hD hS => ?_)
    replace hP : va_P E.1 vwCl (jw_Page_writeEntry E q_this q_book q_bytes q_book_kinds q_book_strokeCounts q_book_strokes q_book_lengths q_book_letters n_bytes c_size 1 c_link c_lastWordLength c_lastWordVowels c_book_size a_book_kinds a_book_lengths a_book_letters a_bytes) H := hP
    replace hD : va_D A (jw_Page_writeEntry E q_this q_book q_bytes q_book_kinds q_book_strokeCounts q_book_strokes q_book_lengths q_book_letters n_bytes c_size 1 c_link c_lastWordLength c_lastWordVowels c_book_size a_book_kinds a_book_lengths a_book_letters a_bytes) := hD
    refine lv_goto (tgt := 173) hx hb dX4_writeEntry_154 (by decide) ?_
    exact j_vret (u := (c_size, 1, c_link, c_lastWordLength, c_lastWordVowels, a_bytes)) (wv := (fun T => (jw_Page_writeEntry E q_this q_book q_bytes q_book_kinds q_book_strokeCounts q_book_strokes q_book_lengths q_book_letters n_bytes T.1 T.2.1 T.2.2.1 T.2.2.2.1 T.2.2.2.2.1 c_book_size a_book_kinds a_book_lengths a_book_letters T.2.2.2.2.2))) h hQ hx hb hr hlocks hS hP hD dX4_writeEntry_173
  replace h := jif_f hq8_6 h
  by_cases hq8_7 : r5 = 7
  · replace h := jif_t hq8_7 h
    refine lv_tableIn (off := 149) (tgt := 157) hx hb dX4_writeEntry_8 (by rw [hq8_7]; decide) (by rw [hq8_7]; decide) (by rw [hq8_7]; rfl) (by decide) ?_
    refine lv_aload_n hx hb dX4_writeEntry_157 rfl (lv_at hl 0 rfl) ?_
    refine lv_iconst (v := 1) hx hb dX4_writeEntry_158 (by decide) ?_
    refine va_put (D := E.1) (ci := 4) (v := .int 1) (ty := .int) (C := RX4) (T := TX4) (N := 7) hx hb hts hin4 tyX4 tyX4_ok nmX4 hown hK.1 hP hD hS 0 rfl rfl 4 (by decide) hk_32 (fun _ h9 => h9) rfl (by decide +kernel) rfl rfl (Nat.le_of_ble_eq_true rfl) dX4_writeEntry_159 (fun H locs hP hD hS => ?_)
    replace hP : va_P E.1 vwCl (jw_Page_writeEntry E q_this q_book q_bytes q_book_kinds q_book_strokeCounts q_book_strokes q_book_lengths q_book_letters n_bytes c_size c_shift 1 c_lastWordLength c_lastWordVowels c_book_size a_book_kinds a_book_lengths a_book_letters a_bytes) H := hP
    replace hD : va_D A (jw_Page_writeEntry E q_this q_book q_bytes q_book_kinds q_book_strokeCounts q_book_strokes q_book_lengths q_book_letters n_bytes c_size c_shift 1 c_lastWordLength c_lastWordVowels c_book_size a_book_kinds a_book_lengths a_book_letters a_bytes) := hD
    refine lv_goto (tgt := 173) hx hb dX4_writeEntry_162 (by decide) ?_
    exact j_vret (u := (c_size, c_shift, 1, c_lastWordLength, c_lastWordVowels, a_bytes)) (wv := (fun T => (jw_Page_writeEntry E q_this q_book q_bytes q_book_kinds q_book_strokeCounts q_book_strokes q_book_lengths q_book_letters n_bytes T.1 T.2.1 T.2.2.1 T.2.2.2.1 T.2.2.2.2.1 c_book_size a_book_kinds a_book_lengths a_book_letters T.2.2.2.2.2))) h hQ hx hb hr hlocks hS hP hD dX4_writeEntry_173
  replace h := jif_f hq8_7 h
  by_cases hq8_8 : r5 = 8
  · replace h := jif_t hq8_8 h
    refine lv_tableIn (off := 157) (tgt := 165) hx hb dX4_writeEntry_8 (by rw [hq8_8]; decide) (by rw [hq8_8]; decide) (by rw [hq8_8]; rfl) (by decide) ?_
    refine lv_aload_n hx hb dX4_writeEntry_165 rfl (lv_at hl 0 rfl) ?_
    refine lv_iconst (v := 2) hx hb dX4_writeEntry_166 (by decide) ?_
    refine va_put (D := E.1) (ci := 4) (v := .int 2) (ty := .int) (C := RX4) (T := TX4) (N := 7) hx hb hts hin4 tyX4 tyX4_ok nmX4 hown hK.1 hP hD hS 0 rfl rfl 3 (by decide) hk_29 (fun _ h9 => h9) rfl (by decide +kernel) rfl rfl (Nat.le_of_ble_eq_true rfl) dX4_writeEntry_167 (fun H locs hP hD hS => ?_)
    replace hP : va_P E.1 vwCl (jw_Page_writeEntry E q_this q_book q_bytes q_book_kinds q_book_strokeCounts q_book_strokes q_book_lengths q_book_letters n_bytes c_size 2 c_link c_lastWordLength c_lastWordVowels c_book_size a_book_kinds a_book_lengths a_book_letters a_bytes) H := hP
    replace hD : va_D A (jw_Page_writeEntry E q_this q_book q_bytes q_book_kinds q_book_strokeCounts q_book_strokes q_book_lengths q_book_letters n_bytes c_size 2 c_link c_lastWordLength c_lastWordVowels c_book_size a_book_kinds a_book_lengths a_book_letters a_bytes) := hD
    refine lv_goto (tgt := 173) hx hb dX4_writeEntry_170 (by decide) ?_
    exact j_vret (u := (c_size, 2, c_link, c_lastWordLength, c_lastWordVowels, a_bytes)) (wv := (fun T => (jw_Page_writeEntry E q_this q_book q_bytes q_book_kinds q_book_strokeCounts q_book_strokes q_book_lengths q_book_letters n_bytes T.1 T.2.1 T.2.2.1 T.2.2.2.1 T.2.2.2.2.1 c_book_size a_book_kinds a_book_lengths a_book_letters T.2.2.2.2.2))) h hQ hx hb hr hlocks hS hP hD dX4_writeEntry_173
  replace h := jif_f hq8_8 h
  refine lv_tableOut (tgt := 173) hx hb dX4_writeEntry_8 (j_tabout 0 8 (by decide) (fun k h1 h2 => by rcases (show k = 0 ∨ k = 1 ∨ k = 2 ∨ k = 3 ∨ k = 4 ∨ k = 5 ∨ k = 6 ∨ k = 7 ∨ k = 8 by omega) with rfl | rfl | rfl | rfl | rfl | rfl | rfl | rfl | rfl <;> first | exact hq8_0 | exact hq8_1 | exact hq8_2 | exact hq8_3 | exact hq8_4 | exact hq8_5 | exact hq8_6 | exact hq8_7 | exact hq8_8)) (by decide) ?_
  exact j_vret (u := (c_size, c_shift, c_link, c_lastWordLength, c_lastWordVowels, a_bytes)) (wv := (fun T => (jw_Page_writeEntry E q_this q_book q_bytes q_book_kinds q_book_strokeCounts q_book_strokes q_book_lengths q_book_letters n_bytes T.1 T.2.1 T.2.2.1 T.2.2.2.1 T.2.2.2.2.1 c_book_size a_book_kinds a_book_lengths a_book_letters T.2.2.2.2.2))) h hQ hx hb hr hlocks hS hP hD dX4_writeEntry_173
abbrev jw_Chord_put (E : jE) (q_this q_letters : Nat) (c_size : Int32) (a_letters : (Nat → Int32)) : va_W := [(q_this, .inr (2, [.ref q_letters, .int c_size])), (q_letters, .inl (E.2.1, 22, .inl a_letters))]
def jr_Chord_put : Room := { frames := 0, cells := 0, slots := 0, locals := 0 }
set_option maxHeartbeats 4000000 in
set_option maxRecDepth 100000 in
theorem jc_Chord_put (l : Launch) (E : jE) (q_this q_letters : Nat) (c_size : Int32) (a_letters : (Nat → Int32)) (x1 : Int32) (N : Nat) {T : Int32 × (Nat → Int32)} (h : jf_Chord_put x1 c_size a_letters = some T) : jMv l yX2_put wsX2_put jr_Chord_put E [.ref q_this, .int x1] (jw_Chord_put E q_this q_letters c_size a_letters) (jw_Chord_put E q_this q_letters T.1 T.2) := by
  refine jMv.begin (cc := cX2_put) (maxL := 2) (ret := none) (by decide) rfl (Nat.le_of_ble_eq_true rfl) ?_
  intro p e s m args below meth c A ls Q hQ hx hb hr hml hown hlocks hts hK hA hP hD hS hl
  replace hown : s.vm.findClass RX2 = some m.cls := hown
  replace hl : lv_has ls 2 [(0, .ref q_this), (1, .int x1)] := hl
  have hin2 : ∀ w ∈ u_ws RX2 TX2 2, w ∈ wsX2_put := by decide +kernel
  have hk_9 := hts (.fieldLink RX2 9 "StenoRoom$Chord" "letters" "[B") (by decide +kernel)
  have hk_15 := hts (.fieldLink RX2 15 "StenoRoom$Chord" "size" "I") (by decide +kernel)
  unfold jf_Chord_put at h
  refine lv_aload_n hx hb dX2_put_0 rfl (lv_at hl 0 rfl) ?_
  refine va_get (D := E.1) (ci := 2) (v := .int c_size) (C := RX2) (T := TX2) (N := 2) hx hb hts hin2 hown hK.1 hP 0 rfl rfl 1 (by decide) hk_15 (fun _ h9 => h9) rfl dX2_put_1 ?_
  refine lv_bipush (v := 22) hx hb dX2_put_4 (by decide) ?_
  refine lv_icmp_ge (tgt := 30) hx hb dX2_put_6 (by decide) (fun hq6 => ?_) (fun hq6 => ?_)
  · replace h := jif_t hq6 h
    exact j_vret (u := (c_size, a_letters)) (wv := (fun T => (jw_Chord_put E q_this q_letters T.1 T.2))) h hQ hx hb hr hlocks hS hP hD dX2_put_30
  · replace h := jif_f hq6 h
    refine lv_aload_n hx hb dX2_put_9 rfl (lv_at hl 0 rfl) ?_
    refine va_get (D := E.1) (ci := 2) (v := .ref q_letters) (C := RX2) (T := TX2) (N := 2) hx hb hts hin2 hown hK.1 hP 0 rfl rfl 0 (by decide) hk_9 (fun _ h9 => h9) rfl dX2_put_10 ?_
    refine lv_aload_n hx hb dX2_put_13 rfl (lv_at hl 0 rfl) ?_
    refine va_get (D := E.1) (ci := 2) (v := .int c_size) (C := RX2) (T := TX2) (N := 2) hx hb hts hin2 hown hK.1 hP 0 rfl rfl 1 (by decide) hk_15 (fun _ h9 => h9) rfl dX2_put_14 ?_
    refine lv_iload_n hx hb dX2_put_17 rfl (lv_at hl 1 rfl) ?_
    refine lv_i2b (v := x1.toInt8.toInt32) hx hb dX2_put_18 rfl ?_
    obtain ⟨g19, h⟩ := jga_e h
    refine va_bast hx hb hK.1 hP hD hS 1 0 rfl rfl g19 dX2_put_19 (fun H locs hP hD hS => ?_)
    replace hP : va_P E.1 vwCl (jw_Chord_put E q_this q_letters c_size (upd a_letters c_size.toNatClampNeg (vp_nar .byte x1.toInt8.toInt32))) H := hP
    replace hD : va_D A (jw_Chord_put E q_this q_letters c_size (upd a_letters c_size.toNatClampNeg (vp_nar .byte x1.toInt8.toInt32))) := hD
    refine lv_aload_n hx hb dX2_put_20 rfl (lv_at hl 0 rfl) ?_
    refine lv_dup hx hb dX2_put_21 rfl ?_
    refine va_get (D := E.1) (ci := 2) (v := .int c_size) (C := RX2) (T := TX2) (N := 2) hx hb hts hin2 hown hK.1 hP 0 rfl rfl 1 (by decide) hk_15 (fun _ h9 => h9) rfl dX2_put_22 ?_
    refine lv_iconst (v := 1) hx hb dX2_put_25 (by decide) ?_
    refine lv_iadd hx hb dX2_put_26 ?_
    refine va_put (D := E.1) (ci := 2) (v := .int (c_size + 1)) (ty := .int) (C := RX2) (T := TX2) (N := 2) hx hb hts hin2 tyX2 tyX2_ok nmX2 hown hK.1 hP hD hS 0 rfl rfl 1 (by decide) hk_15 (fun _ h9 => h9) rfl (by decide +kernel) rfl rfl (Nat.le_of_ble_eq_true rfl) dX2_put_27 (fun H locs hP hD hS => ?_)
    replace hP : va_P E.1 vwCl (jw_Chord_put E q_this q_letters (c_size + 1) (upd a_letters c_size.toNatClampNeg (vp_nar .byte x1.toInt8.toInt32))) H := hP
    replace hD : va_D A (jw_Chord_put E q_this q_letters (c_size + 1) (upd a_letters c_size.toNatClampNeg (vp_nar .byte x1.toInt8.toInt32))) := hD
    exact j_vret (u := ((c_size + 1), (upd a_letters c_size.toNatClampNeg (vp_nar .byte x1.toInt8.toInt32)))) (wv := (fun T => (jw_Chord_put E q_this q_letters T.1 T.2))) h hQ hx hb hr hlocks hS hP hD dX2_put_30
abbrev jw_Chord_spell (E : jE) (q_this q_letters : Nat) (c_size : Int32) (a_letters : (Nat → Int32)) : va_W := [(q_this, .inr (2, [.ref q_letters, .int c_size])), (q_letters, .inl (E.2.1, 22, .inl a_letters))]
def jr_Chord_spell : Room := { frames := 4, cells := 0, slots := 0, locals := 120 }
set_option maxHeartbeats 4000000 in
set_option maxRecDepth 100000 in
theorem jc_Chord_spell (l : Launch) (E : jE) (q_this q_letters : Nat) (c_size : Int32) (a_letters : (Nat → Int32)) (x1 : Int32) (N : Nat) {T : Int32 × (Nat → Int32)} (h : jf_Chord_spell N x1 c_size a_letters = some T) : jMv l yX2_spell wsX2_spell jr_Chord_spell E [.ref q_this, .int x1] (jw_Chord_spell E q_this q_letters c_size a_letters) (jw_Chord_spell E q_this q_letters T.1 T.2) := by
  refine jMv.begin (cc := cX2_spell) (maxL := 4) (ret := none) (by decide) rfl (Nat.le_of_ble_eq_true rfl) ?_
  intro p e s m args below meth c A ls Q hQ hx hb hr hml hown hlocks hts hK hA hP hD hS hl
  replace hown : s.vm.findClass RX2 = some m.cls := hown
  replace hl : lv_has ls 4 [(0, .ref q_this), (1, .int x1)] := hl
  have hin2 : ∀ w ∈ u_ws RX2 TX2 2, w ∈ wsX2_spell := by decide +kernel
  have hk_15 := hts (.fieldLink RX2 15 "StenoRoom$Chord" "size" "I") (by decide +kernel)
  have kb67 : ∀ (k21 : Int32 → Int32 → Int32 → (Nat → Int32) → Option (Int32 × (Nat → Int32))) (hk21 : ∀ (x2 : Int32) (x3 : Int32) (c_size : Int32) (a_letters : (Nat → Int32)) (H : Heap) (locs : List Loc) (ls : Array Slot), k21 x2 x3 c_size a_letters = some T → va_P E.1 vwCl (jw_Chord_spell E q_this q_letters c_size a_letters) H → va_D A (jw_Chord_spell E q_this q_letters c_size a_letters) → va_S A s.heap H locs → lv_has ls 4 [(0, .ref q_this), (1, .int x1), (2, .int x2), (3, .int x3)] → W p l e jr_Chord_spell s m args below meth c H locs 0 0 Q (F0 m 21 ls [])) (x2 : Int32) (x3 : Int32) (c_size : Int32) (a_letters : (Nat → Int32)) (H : Heap) (locs : List Loc) (ls : Array Slot), jf_Chord_spell_b67 k21 x2 x3 c_size a_letters = some T → va_P E.1 vwCl (jw_Chord_spell E q_this q_letters c_size a_letters) H → va_D A (jw_Chord_spell E q_this q_letters c_size a_letters) → va_S A s.heap H locs → lv_has ls 4 [(0, .ref q_this), (1, .int x1), (2, .int x2), (3, .int x3)] → W p l e jr_Chord_spell s m args below meth c H locs 0 0 Q (F0 m 67 ls []) := by
    intro k21 hk21 x2 x3 c_size a_letters H locs ls h hP hD hS hl
    unfold jf_Chord_spell_b67 at h
    refine lv_iinc (v := (x3 + 1)) (lv' := [(3, .int (x3 + 1)), (0, .ref q_this), (1, .int x1), (2, .int x2)]) hx hb dX2_spell_67 hl (k := 3) rfl rfl (by decide) rfl (fun ls hl => ?_)
    refine lv_goto (tgt := 21) hx hb dX2_spell_70 (by decide) ?_
    exact hk21 x2 (x3 + 1) c_size a_letters _ _ _ h hP hD hS (lv_sub hl [1, 2, 3, 0] rfl)
  have kb57 : ∀ (k21 : Int32 → Int32 → Int32 → (Nat → Int32) → Option (Int32 × (Nat → Int32))) (hk21 : ∀ (x2 : Int32) (x3 : Int32) (c_size : Int32) (a_letters : (Nat → Int32)) (H : Heap) (locs : List Loc) (ls : Array Slot), k21 x2 x3 c_size a_letters = some T → va_P E.1 vwCl (jw_Chord_spell E q_this q_letters c_size a_letters) H → va_D A (jw_Chord_spell E q_this q_letters c_size a_letters) → va_S A s.heap H locs → lv_has ls 4 [(0, .ref q_this), (1, .int x1), (2, .int x2), (3, .int x3)] → W p l e jr_Chord_spell s m args below meth c H locs 0 0 Q (F0 m 21 ls [])) (x2 : Int32) (x3 : Int32) (c_size : Int32) (a_letters : (Nat → Int32)) (H : Heap) (locs : List Loc) (ls : Array Slot), jf_Chord_spell_b57 k21 x2 x3 c_size a_letters = some T → va_P E.1 vwCl (jw_Chord_spell E q_this q_letters c_size a_letters) H → va_D A (jw_Chord_spell E q_this q_letters c_size a_letters) → va_S A s.heap H locs → lv_has ls 4 [(0, .ref q_this), (1, .int x1), (2, .int x2), (3, .int x3)] → W p l e jr_Chord_spell s m args below meth c H locs 0 0 Q (F0 m 57 ls []) := by
    intro k21 hk21 x2 x3 c_size a_letters H locs ls h hP hD hS hl
    unfold jf_Chord_spell_b57 at h
    refine lv_aload_n hx hb dX2_spell_57 rfl (lv_at hl 0 rfl) ?_
    refine va_ldcS hx hb hown hK.2.2.2.1 dX2_spell_58 ?_
    refine lv_iload_n hx hb dX2_spell_60 rfl (lv_at hl 3 rfl) ?_
    obtain ⟨g61, h⟩ := jga_e h
    refine j_strChar (own := RX2) (rest := [.ref q_this]) hx hb hml hown hts hK hA hP hD hS gX2_spell_J0_charAt_5068e rfl [0, 1] rfl rfl hl.1 rfl dX2_spell_61 g61 (fun H locs hP hD hS => ?_) rfl
    replace hP : va_P E.1 vwCl (jw_Chord_spell E q_this q_letters c_size a_letters) H := hP
    replace hD : va_D A (jw_Chord_spell E q_this q_letters c_size a_letters) := hD
    obtain ⟨⟨c_size_64, a_letters_64⟩, hf64, h⟩ := jbd h
    refine j_callVv (own := RX2) (As := [.int (jKey x3.toNatClampNeg)]) (rest := []) hx hb hml hown hts hK hA hP hD hS (jc_Chord_put l E q_this q_letters c_size a_letters (jKey x3.toNatClampNeg) N hf64) gX2_spell_X2_put rfl ⟨rfl, rfl⟩ 1 (by decide +kernel) rfl rfl 0 2 rfl rfl [0, 1] [] [0, 1] rfl rfl rfl rfl rfl rfl rfl hl.1 rfl rfl dX2_spell_64 (fun H locs hP hD hS => ?_)
    replace hP : va_P E.1 vwCl (jw_Chord_spell E q_this q_letters c_size_64 a_letters_64) H := hP
    replace hD : va_D A (jw_Chord_spell E q_this q_letters c_size_64 a_letters_64) := hD
    exact kb67 k21 hk21  x2 x3 c_size_64 a_letters_64 _ _ _ h hP hD hS (lv_sub hl [0, 1, 2, 3] rfl)
  have kb21 : ∀ (n : Nat) (x2 : Int32) (x3 : Int32) (c_size : Int32) (a_letters : (Nat → Int32)) (H : Heap) (locs : List Loc) (ls : Array Slot), jf_Chord_spell_b21 x1 n x2 x3 c_size a_letters = some T → va_P E.1 vwCl (jw_Chord_spell E q_this q_letters c_size a_letters) H → va_D A (jw_Chord_spell E q_this q_letters c_size a_letters) → va_S A s.heap H locs → lv_has ls 4 [(0, .ref q_this), (1, .int x1), (2, .int x2), (3, .int x3)] → W p l e jr_Chord_spell s m args below meth c H locs 0 0 Q (F0 m 21 ls []) := by
    intro n
    induction n with
    | zero => intro x2 x3 c_size a_letters H locs ls h; exact j_none (α := Int32 × (Nat → Int32)) h
    | succ n ih =>
      intro x2 x3 c_size a_letters H locs ls h hP hD hS hl
      rw [jf_Chord_spell_b21] at h
      refine lv_iload_n hx hb dX2_spell_21 rfl (lv_at hl 3 rfl) ?_
      refine va_ldcS hx hb hown hK.2.2.2.1 dX2_spell_22 ?_
      refine j_strLen (own := RX2) (rest := [.int x3]) hx hb hml hown hts hK hA hP hD hS gX2_spell_J0_length_8abf5 rfl [0, 1] rfl rfl hl.1 rfl dX2_spell_24 (fun H locs hP hD hS => ?_) rfl
      replace hP : va_P E.1 vwCl (jw_Chord_spell E q_this q_letters c_size a_letters) H := hP
      replace hD : va_D A (jw_Chord_spell E q_this q_letters c_size a_letters) := hD
      refine lv_icmp_ge (tgt := 73) hx hb dX2_spell_27 (by decide) (fun hq27 => ?_) (fun hq27 => ?_)
      · replace h := jif_t hq27 h
        exact j_vret (u := (c_size, a_letters)) (wv := (fun T => (jw_Chord_spell E q_this q_letters T.1 T.2))) h hQ hx hb hr hlocks hS hP hD dX2_spell_73
      · replace h := jif_f hq27 h
        refine lv_iload_n hx hb dX2_spell_30 rfl (lv_at hl 1 rfl) ?_
        refine lv_iload_n hx hb dX2_spell_31 rfl (lv_at hl 3 rfl) ?_
        refine lv_ishr hx hb dX2_spell_32 ?_
        refine lv_iconst (v := 1) hx hb dX2_spell_33 (by decide) ?_
        refine lv_iand hx hb dX2_spell_34 ?_
        refine lv_iconst (v := 1) hx hb dX2_spell_35 (by decide) ?_
        refine lv_icmp_ne (tgt := 67) hx hb dX2_spell_36 (by decide) (fun hq36 => ?_) (fun hq36 => ?_)
        · replace h := jif_f hq36 h
          exact kb67 (jf_Chord_spell_b21 x1 n) ih  x2 x3 c_size a_letters _ _ _ h hP hD hS (lv_sub hl [0, 1, 2, 3] rfl)
        · replace h := jif_t hq36 h
          refine lv_iload_n hx hb dX2_spell_39 rfl (lv_at hl 2 rfl) ?_
          refine lv_if_eq (tgt := 57) hx hb dX2_spell_40 (by decide) (fun hq40 => ?_) (fun hq40 => ?_)
          · replace h := jif_t hq40 h
            exact kb57 (jf_Chord_spell_b21 x1 n) ih  x2 x3 c_size a_letters _ _ _ h hP hD hS (lv_sub hl [0, 1, 2, 3] rfl)
          · replace h := jif_f hq40 h
            refine lv_iload_n hx hb dX2_spell_43 rfl (lv_at hl 3 rfl) ?_
            refine lv_bipush (v := 12) hx hb dX2_spell_44 (by decide) ?_
            refine lv_icmp_lt (tgt := 57) hx hb dX2_spell_46 (by decide) (fun hq46 => ?_) (fun hq46 => ?_)
            · replace h := jif_t hq46 h
              exact kb57 (jf_Chord_spell_b21 x1 n) ih  x2 x3 c_size a_letters _ _ _ h hP hD hS (lv_sub hl [0, 1, 2, 3] rfl)
            · replace h := jif_f hq46 h
              refine lv_aload_n hx hb dX2_spell_49 rfl (lv_at hl 0 rfl) ?_
              refine lv_bipush (v := 45) hx hb dX2_spell_50 (by decide) ?_
              obtain ⟨⟨c_size_52, a_letters_52⟩, hf52, h⟩ := jbd h
              refine j_callVv (own := RX2) (As := [.int 45]) (rest := []) hx hb hml hown hts hK hA hP hD hS (jc_Chord_put l E q_this q_letters c_size a_letters 45 N hf52) gX2_spell_X2_put rfl ⟨rfl, rfl⟩ 1 (by decide +kernel) rfl rfl 0 2 rfl rfl [0, 1] [] [0, 1] rfl rfl rfl rfl rfl rfl rfl hl.1 rfl rfl dX2_spell_52 (fun H locs hP hD hS => ?_)
              replace hP : va_P E.1 vwCl (jw_Chord_spell E q_this q_letters c_size_52 a_letters_52) H := hP
              replace hD : va_D A (jw_Chord_spell E q_this q_letters c_size_52 a_letters_52) := hD
              refine lv_iconst (v := 0) hx hb dX2_spell_55 (by decide) ?_
              refine lv_istore_n (lv' := [(2, .int 0), (0, .ref q_this), (1, .int x1), (3, .int x3)]) hx hb dX2_spell_56 rfl hl (by decide) rfl (fun ls hl => ?_)
              exact kb57 (jf_Chord_spell_b21 x1 n) ih  0 x3 c_size_52 a_letters_52 _ _ _ h hP hD hS (lv_sub hl [1, 2, 0, 3] rfl)
  have kb18 : ∀ (z0 : Int32) (c_size : Int32) (a_letters : (Nat → Int32)) (H : Heap) (locs : List Loc) (ls : Array Slot), jf_Chord_spell_b18 N x1 z0 c_size a_letters = some T → va_P E.1 vwCl (jw_Chord_spell E q_this q_letters c_size a_letters) H → va_D A (jw_Chord_spell E q_this q_letters c_size a_letters) → va_S A s.heap H locs → lv_has ls 4 [(0, .ref q_this), (1, .int x1)] → W p l e jr_Chord_spell s m args below meth c H locs 0 0 Q (F0 m 18 ls [.int z0]) := by
    intro  z0 c_size a_letters H locs ls h hP hD hS hl
    unfold jf_Chord_spell_b18 at h
    refine lv_istore_n (lv' := [(2, .int z0), (0, .ref q_this), (1, .int x1)]) hx hb dX2_spell_18 rfl hl (by decide) rfl (fun ls hl => ?_)
    refine lv_iconst (v := 0) hx hb dX2_spell_19 (by decide) ?_
    refine lv_istore_n (lv' := [(3, .int 0), (2, .int z0), (0, .ref q_this), (1, .int x1)]) hx hb dX2_spell_20 rfl hl (by decide) rfl (fun ls hl => ?_)
    exact kb21  N z0 0 c_size a_letters _ _ _ h hP hD hS (lv_sub hl [2, 3, 1, 0] rfl)
  unfold jf_Chord_spell at h
  refine lv_aload_n hx hb dX2_spell_0 rfl (lv_at hl 0 rfl) ?_
  refine lv_iconst (v := 0) hx hb dX2_spell_1 (by decide) ?_
  refine va_put (D := E.1) (ci := 2) (v := .int 0) (ty := .int) (C := RX2) (T := TX2) (N := 2) hx hb hts hin2 tyX2 tyX2_ok nmX2 hown hK.1 hP hD hS 0 rfl rfl 1 (by decide) hk_15 (fun _ h9 => h9) rfl (by decide +kernel) rfl rfl (Nat.le_of_ble_eq_true rfl) dX2_spell_2 (fun H locs hP hD hS => ?_)
  replace hP : va_P E.1 vwCl (jw_Chord_spell E q_this q_letters 0 a_letters) H := hP
  replace hD : va_D A (jw_Chord_spell E q_this q_letters 0 a_letters) := hD
  refine lv_iload_n hx hb dX2_spell_5 rfl (lv_at hl 1 rfl) ?_
  refine lv_sipush (v := 3968) hx hb dX2_spell_6 (by decide) ?_
  refine lv_iand hx hb dX2_spell_9 ?_
  refine lv_if_ne (tgt := 17) hx hb dX2_spell_10 (by decide) (fun hq10 => ?_) (fun hq10 => ?_)
  · replace h := jif_f hq10 h
    refine lv_iconst (v := 0) hx hb dX2_spell_17 (by decide) ?_
    exact kb18   0 0 a_letters _ _ _ h hP hD hS (lv_sub hl [0, 1] rfl)
  · replace h := jif_t hq10 h
    refine lv_iconst (v := 1) hx hb dX2_spell_13 (by decide) ?_
    refine lv_goto (tgt := 18) hx hb dX2_spell_14 (by decide) ?_
    exact kb18   1 0 a_letters _ _ _ h hP hD hS (lv_sub hl [0, 1] rfl)
abbrev jw_Chord_size (E : jE) (q_this q_letters : Nat) (c_size : Int32) : va_W := [(q_this, .inr (2, [.ref q_letters, .int c_size]))]
def jr_Chord_size : Room := { frames := 0, cells := 0, slots := 0, locals := 0 }
set_option maxHeartbeats 4000000 in
set_option maxRecDepth 100000 in
theorem jc_Chord_size (l : Launch) (E : jE) (q_this q_letters : Nat) (c_size : Int32) (N : Nat) {T : Int32} (h : jf_Chord_size c_size = some T) : jMi l yX2_size wsX2_size jr_Chord_size E [.ref q_this] (jw_Chord_size E q_this q_letters c_size) (T) (jw_Chord_size E q_this q_letters c_size) := by
  refine jMi.begin (cc := cX2_size) (maxL := 1) (ret := (some .int)) (by decide) rfl (Nat.le_of_ble_eq_true rfl) ?_
  intro p e s m args below meth c A ls Q hQ hx hb hr hml hown hlocks hts hK hA hP hD hS hl
  replace hown : s.vm.findClass RX2 = some m.cls := hown
  replace hl : lv_has ls 1 [(0, .ref q_this)] := hl
  have hin2 : ∀ w ∈ u_ws RX2 TX2 2, w ∈ wsX2_size := by decide +kernel
  have hk_15 := hts (.fieldLink RX2 15 "StenoRoom$Chord" "size" "I") (by decide +kernel)
  unfold jf_Chord_size at h
  refine lv_aload_n hx hb dX2_size_0 rfl (lv_at hl 0 rfl) ?_
  refine va_get (D := E.1) (ci := 2) (v := .int c_size) (C := RX2) (T := TX2) (N := 2) hx hb hts hin2 hown hK.1 hP 0 rfl rfl 1 (by decide) hk_15 (fun _ h9 => h9) rfl dX2_size_1 ?_
  exact j_iret (u := c_size) (rv := (fun T => T)) (wv := (fun _ => (jw_Chord_size E q_this q_letters c_size))) h hQ hx hb hr rfl hlocks hS hP hD dX2_size_4
abbrev jw_Chord_byteAt (E : jE) (q_this q_letters : Nat) (c_size : Int32) (a_letters : (Nat → Int32)) : va_W := [(q_this, .inr (2, [.ref q_letters, .int c_size])), (q_letters, .inl (E.2.1, 22, .inl a_letters))]
def jr_Chord_byteAt : Room := { frames := 0, cells := 0, slots := 0, locals := 0 }
set_option maxHeartbeats 4000000 in
set_option maxRecDepth 100000 in
theorem jc_Chord_byteAt (l : Launch) (E : jE) (q_this q_letters : Nat) (c_size : Int32) (a_letters : (Nat → Int32)) (x1 : Int32) (N : Nat) {T : Int32} (h : jf_Chord_byteAt x1 c_size a_letters = some T) : jMi l yX2_byteAt wsX2_byteAt jr_Chord_byteAt E [.ref q_this, .int x1] (jw_Chord_byteAt E q_this q_letters c_size a_letters) (T) (jw_Chord_byteAt E q_this q_letters c_size a_letters) := by
  refine jMi.begin (cc := cX2_byteAt) (maxL := 2) (ret := (some .int)) (by decide) rfl (Nat.le_of_ble_eq_true rfl) ?_
  intro p e s m args below meth c A ls Q hQ hx hb hr hml hown hlocks hts hK hA hP hD hS hl
  replace hown : s.vm.findClass RX2 = some m.cls := hown
  replace hl : lv_has ls 2 [(0, .ref q_this), (1, .int x1)] := hl
  have hin2 : ∀ w ∈ u_ws RX2 TX2 2, w ∈ wsX2_byteAt := by decide +kernel
  have hk_9 := hts (.fieldLink RX2 9 "StenoRoom$Chord" "letters" "[B") (by decide +kernel)
  have hk_15 := hts (.fieldLink RX2 15 "StenoRoom$Chord" "size" "I") (by decide +kernel)
  unfold jf_Chord_byteAt at h
  refine lv_iload_n hx hb dX2_byteAt_0 rfl (lv_at hl 1 rfl) ?_
  refine lv_if_lt (tgt := 21) hx hb dX2_byteAt_1 (by decide) (fun hq1 => ?_) (fun hq1 => ?_)
  · replace h := jif_t hq1 h
    refine lv_iconst (v := (-1)) hx hb dX2_byteAt_21 (by decide) ?_
    exact j_iret (u := (-1)) (rv := (fun T => T)) (wv := (fun _ => (jw_Chord_byteAt E q_this q_letters c_size a_letters))) h hQ hx hb hr rfl hlocks hS hP hD dX2_byteAt_22
  · replace h := jif_f hq1 h
    refine lv_iload_n hx hb dX2_byteAt_4 rfl (lv_at hl 1 rfl) ?_
    refine lv_aload_n hx hb dX2_byteAt_5 rfl (lv_at hl 0 rfl) ?_
    refine va_get (D := E.1) (ci := 2) (v := .int c_size) (C := RX2) (T := TX2) (N := 2) hx hb hts hin2 hown hK.1 hP 0 rfl rfl 1 (by decide) hk_15 (fun _ h9 => h9) rfl dX2_byteAt_6 ?_
    refine lv_icmp_ge (tgt := 21) hx hb dX2_byteAt_9 (by decide) (fun hq9 => ?_) (fun hq9 => ?_)
    · replace h := jif_t hq9 h
      refine lv_iconst (v := (-1)) hx hb dX2_byteAt_21 (by decide) ?_
      exact j_iret (u := (-1)) (rv := (fun T => T)) (wv := (fun _ => (jw_Chord_byteAt E q_this q_letters c_size a_letters))) h hQ hx hb hr rfl hlocks hS hP hD dX2_byteAt_22
    · replace h := jif_f hq9 h
      refine lv_aload_n hx hb dX2_byteAt_12 rfl (lv_at hl 0 rfl) ?_
      refine va_get (D := E.1) (ci := 2) (v := .ref q_letters) (C := RX2) (T := TX2) (N := 2) hx hb hts hin2 hown hK.1 hP 0 rfl rfl 0 (by decide) hk_9 (fun _ h9 => h9) rfl dX2_byteAt_13 ?_
      refine lv_iload_n hx hb dX2_byteAt_16 rfl (lv_at hl 1 rfl) ?_
      obtain ⟨g17, h⟩ := jga_e h
      refine va_bald hx hb hK.1 hP 1 0 rfl rfl g17 dX2_byteAt_17 ?_
      refine lv_goto (tgt := 22) hx hb dX2_byteAt_18 (by decide) ?_
      exact j_iret (u := (a_letters x1.toNatClampNeg)) (rv := (fun T => T)) (wv := (fun _ => (jw_Chord_byteAt E q_this q_letters c_size a_letters))) h hQ hx hb hr rfl hlocks hS hP hD dX2_byteAt_22
abbrev jw_Page_writeRaw (E : jE) (q_this q_book q_bytes q_arg1 q_arg1_letters : Nat) (n_bytes : Nat) (c_size : Int32) (c_shift : Int32) (c_link : Int32) (c_lastWordLength : Int32) (c_lastWordVowels : Int32) (c_arg1_size : Int32) (a_arg1_letters : (Nat → Int32)) (a_bytes : (Nat → Int32)) : va_W := [(q_this, .inr (4, [.ref q_book, .ref q_bytes, .int c_size, .int c_shift, .int c_link, .int c_lastWordLength, .int c_lastWordVowels])), (q_arg1, .inr (2, [.ref q_arg1_letters, .int c_arg1_size])), (q_arg1_letters, .inl (E.2.1, 22, .inl a_arg1_letters)), (q_bytes, .inl (E.2.1, n_bytes, .inl a_bytes))]
def jr_Page_writeRaw : Room := { frames := 2, cells := 0, slots := 0, locals := 41 }
set_option maxHeartbeats 4000000 in
set_option maxRecDepth 100000 in
theorem jc_Page_writeRaw (l : Launch) (E : jE) (q_this q_book q_bytes q_arg1 q_arg1_letters : Nat) (n_bytes : Nat) (c_size : Int32) (c_shift : Int32) (c_link : Int32) (c_lastWordLength : Int32) (c_lastWordVowels : Int32) (c_arg1_size : Int32) (a_arg1_letters : (Nat → Int32)) (a_bytes : (Nat → Int32)) (N : Nat) {T : Int32 × Int32 × (Nat → Int32)} (h : jf_Page_writeRaw N n_bytes c_arg1_size a_arg1_letters c_size c_link a_bytes = some T) : jMv l yX4_writeRaw wsX4_writeRaw jr_Page_writeRaw E [.ref q_this, .ref q_arg1] (jw_Page_writeRaw E q_this q_book q_bytes q_arg1 q_arg1_letters n_bytes c_size c_shift c_link c_lastWordLength c_lastWordVowels c_arg1_size a_arg1_letters a_bytes) (jw_Page_writeRaw E q_this q_book q_bytes q_arg1 q_arg1_letters n_bytes T.1 c_shift T.2.1 c_lastWordLength c_lastWordVowels c_arg1_size a_arg1_letters T.2.2) := by
  refine jMv.begin (cc := cX4_writeRaw) (maxL := 3) (ret := none) (by decide) rfl (Nat.le_of_ble_eq_true rfl) ?_
  intro p e s m args below meth c A ls Q hQ hx hb hr hml hown hlocks hts hK hA hP hD hS hl
  replace hown : s.vm.findClass RX4 = some m.cls := hown
  replace hl : lv_has ls 3 [(0, .ref q_this), (1, .ref q_arg1)] := hl
  have kb6 : ∀ (n : Nat) (x2 : Int32) (c_size : Int32) (c_link : Int32) (a_bytes : (Nat → Int32)) (H : Heap) (locs : List Loc) (ls : Array Slot), jf_Page_writeRaw_b6 n_bytes c_arg1_size a_arg1_letters n x2 c_size c_link a_bytes = some T → va_P E.1 vwCl (jw_Page_writeRaw E q_this q_book q_bytes q_arg1 q_arg1_letters n_bytes c_size c_shift c_link c_lastWordLength c_lastWordVowels c_arg1_size a_arg1_letters a_bytes) H → va_D A (jw_Page_writeRaw E q_this q_book q_bytes q_arg1 q_arg1_letters n_bytes c_size c_shift c_link c_lastWordLength c_lastWordVowels c_arg1_size a_arg1_letters a_bytes) → va_S A s.heap H locs → lv_has ls 3 [(0, .ref q_this), (1, .ref q_arg1), (2, .int x2)] → W p l e jr_Page_writeRaw s m args below meth c H locs 0 0 Q (F0 m 6 ls []) := by
    intro n
    induction n with
    | zero => intro x2 c_size c_link a_bytes H locs ls h; exact j_none (α := Int32 × Int32 × (Nat → Int32)) h
    | succ n ih =>
      intro x2 c_size c_link a_bytes H locs ls h hP hD hS hl
      rw [jf_Page_writeRaw_b6] at h
      refine lv_iload_n hx hb dX4_writeRaw_6 rfl (lv_at hl 2 rfl) ?_
      refine lv_aload_n hx hb dX4_writeRaw_7 rfl (lv_at hl 1 rfl) ?_
      obtain ⟨r8, hf8, h⟩ := jbd h
      refine j_callVi (own := RX4) (As := []) (rest := [.int x2]) hx hb hml hown hts hK hA hP hD hS (jc_Chord_size l E q_arg1 q_arg1_letters c_arg1_size N hf8) gX4_writeRaw_X2_size rfl ⟨rfl, rfl⟩ 0 (by decide +kernel) rfl rfl 1 2 rfl rfl [1] [0, 2, 3] [0, 3, 1, 2] rfl rfl rfl rfl rfl rfl rfl hl.1 rfl rfl dX4_writeRaw_8 (fun H locs hP hD hS => ?_)
      replace hP : va_P E.1 vwCl (jw_Page_writeRaw E q_this q_book q_bytes q_arg1 q_arg1_letters n_bytes c_size c_shift c_link c_lastWordLength c_lastWordVowels c_arg1_size a_arg1_letters a_bytes) H := hP
      replace hD : va_D A (jw_Page_writeRaw E q_this q_book q_bytes q_arg1 q_arg1_letters n_bytes c_size c_shift c_link c_lastWordLength c_lastWordVowels c_arg1_size a_arg1_letters a_bytes) := hD
      refine lv_icmp_ge (tgt := 29) hx hb dX4_writeRaw_11 (by decide) (fun hq11 => ?_) (fun hq11 => ?_)
      · replace h := jif_t hq11 h
        exact j_vret (u := (c_size, c_link, a_bytes)) (wv := (fun T => (jw_Page_writeRaw E q_this q_book q_bytes q_arg1 q_arg1_letters n_bytes T.1 c_shift T.2.1 c_lastWordLength c_lastWordVowels c_arg1_size a_arg1_letters T.2.2))) h hQ hx hb hr hlocks hS hP hD dX4_writeRaw_29
      · replace h := jif_f hq11 h
        refine lv_aload_n hx hb dX4_writeRaw_14 rfl (lv_at hl 0 rfl) ?_
        refine lv_aload_n hx hb dX4_writeRaw_15 rfl (lv_at hl 1 rfl) ?_
        refine lv_iload_n hx hb dX4_writeRaw_16 rfl (lv_at hl 2 rfl) ?_
        obtain ⟨r17, hf17, h⟩ := jbd h
        refine j_callVi (own := RX4) (As := [.int x2]) (rest := [.ref q_this]) hx hb hml hown hts hK hA hP hD hS (jc_Chord_byteAt l E q_arg1 q_arg1_letters c_arg1_size a_arg1_letters x2 N hf17) gX4_writeRaw_X2_byteAt rfl ⟨rfl, rfl⟩ 1 (by decide +kernel) rfl rfl 1 2 rfl rfl [1, 2] [0, 3] [0, 2, 3, 1] rfl rfl rfl rfl rfl rfl rfl hl.1 rfl rfl dX4_writeRaw_17 (fun H locs hP hD hS => ?_)
        replace hP : va_P E.1 vwCl (jw_Page_writeRaw E q_this q_book q_bytes q_arg1 q_arg1_letters n_bytes c_size c_shift c_link c_lastWordLength c_lastWordVowels c_arg1_size a_arg1_letters a_bytes) H := hP
        replace hD : va_D A (jw_Page_writeRaw E q_this q_book q_bytes q_arg1 q_arg1_letters n_bytes c_size c_shift c_link c_lastWordLength c_lastWordVowels c_arg1_size a_arg1_letters a_bytes) := hD
        obtain ⟨⟨c_size_20, a_bytes_20⟩, hf20, h⟩ := jbd h
        refine j_callVv (own := RX4) (As := [.int r17]) (rest := []) hx hb hml hown hts hK hA hP hD hS (jc_Page_put l E q_this q_book q_bytes n_bytes c_size c_shift c_link c_lastWordLength c_lastWordVowels a_bytes r17 N hf20) gX4_writeRaw_X4_put rfl ⟨rfl, rfl⟩ 1 (by decide +kernel) rfl rfl 0 4 rfl rfl [0, 3] [1, 2] [2, 0, 1, 3] rfl rfl rfl rfl rfl rfl rfl hl.1 rfl rfl dX4_writeRaw_20 (fun H locs hP hD hS => ?_)
        replace hP : va_P E.1 vwCl (jw_Page_writeRaw E q_this q_book q_bytes q_arg1 q_arg1_letters n_bytes c_size_20 c_shift c_link c_lastWordLength c_lastWordVowels c_arg1_size a_arg1_letters a_bytes_20) H := hP
        replace hD : va_D A (jw_Page_writeRaw E q_this q_book q_bytes q_arg1 q_arg1_letters n_bytes c_size_20 c_shift c_link c_lastWordLength c_lastWordVowels c_arg1_size a_arg1_letters a_bytes_20) := hD
        refine lv_iinc (v := (x2 + 1)) (lv' := [(2, .int (x2 + 1)), (0, .ref q_this), (1, .ref q_arg1)]) hx hb dX4_writeRaw_23 hl (k := 2) rfl rfl (by decide) rfl (fun ls hl => ?_)
        refine lv_goto (tgt := 6) hx hb dX4_writeRaw_26 (by decide) ?_
        exact ih (x2 + 1) c_size_20 c_link a_bytes_20 _ _ _ h hP hD hS (lv_sub hl [1, 2, 0] rfl)
  unfold jf_Page_writeRaw at h
  refine lv_aload_n hx hb dX4_writeRaw_0 rfl (lv_at hl 0 rfl) ?_
  obtain ⟨⟨c_size_1, c_link_1, a_bytes_1⟩, hf1, h⟩ := jbd h
  refine j_callVv (own := RX4) (As := []) (rest := []) hx hb hml hown hts hK hA hP hD hS (jc_Page_putBlank l E q_this q_book q_bytes n_bytes c_size c_shift c_link c_lastWordLength c_lastWordVowels a_bytes N hf1) gX4_writeRaw_X4_putBlank rfl ⟨rfl, rfl⟩ 0 (by decide +kernel) rfl rfl 0 4 rfl rfl [0, 3] [1, 2] [2, 0, 1, 3] rfl rfl rfl rfl rfl rfl rfl hl.1 rfl rfl dX4_writeRaw_1 (fun H locs hP hD hS => ?_)
  replace hP : va_P E.1 vwCl (jw_Page_writeRaw E q_this q_book q_bytes q_arg1 q_arg1_letters n_bytes c_size_1 c_shift c_link_1 c_lastWordLength c_lastWordVowels c_arg1_size a_arg1_letters a_bytes_1) H := hP
  replace hD : va_D A (jw_Page_writeRaw E q_this q_book q_bytes q_arg1 q_arg1_letters n_bytes c_size_1 c_shift c_link_1 c_lastWordLength c_lastWordVowels c_arg1_size a_arg1_letters a_bytes_1) := hD
  refine lv_iconst (v := 0) hx hb dX4_writeRaw_4 (by decide) ?_
  refine lv_istore_n (lv' := [(2, .int 0), (0, .ref q_this), (1, .ref q_arg1)]) hx hb dX4_writeRaw_5 rfl hl (by decide) rfl (fun ls hl => ?_)
  exact kb6  N 0 c_size_1 c_link_1 a_bytes_1 _ _ _ h hP hD hS (lv_sub hl [1, 2, 0] rfl)
abbrev jw_Transcript_writeTranslation (E : jE) (q_this q_book q_record q_page q_chord q_lasts q_behinds q_owners q_book_kinds q_book_strokeCounts q_book_strokes q_book_lengths q_book_letters q_chord_letters q_page_bytes q_record_keys q_record_firsts q_record_entries : Nat) (c_size : Int32) (c_raws : Int32) (c_settled : Int32) (c_book_size : Int32) (c_chord_size : Int32) (c_page_size : Int32) (c_page_shift : Int32) (c_page_link : Int32) (c_page_lastWordLength : Int32) (c_page_lastWordVowels : Int32) (c_record_size : Int32) (c_record_readSoFar : Int32) (a_book_kinds : (Nat → Int32)) (a_book_lengths : (Nat → Int32)) (a_book_letters : (Nat → Int32)) (a_chord_letters : (Nat → Int32)) (a_lasts : (Nat → Int32)) (a_page_bytes : (Nat → Int32)) (a_record_entries : (Nat → Int32)) (a_record_keys : (Nat → Int32)) : va_W := [(q_this, .inr (9, [.ref q_book, .ref q_record, .ref q_page, .ref q_chord, .ref q_lasts, .ref q_behinds, .ref q_owners, .int c_size, .int c_raws, .int c_settled])), (q_book, .inr (0, [.ref q_book_kinds, .ref q_book_strokeCounts, .ref q_book_strokes, .ref q_book_lengths, .ref q_book_letters, .int c_book_size])), (q_chord, .inr (2, [.ref q_chord_letters, .int c_chord_size])), (q_page, .inr (4, [.ref q_book, .ref q_page_bytes, .int c_page_size, .int c_page_shift, .int c_page_link, .int c_page_lastWordLength, .int c_page_lastWordVowels])), (q_record, .inr (6, [.ref q_book, .ref q_record_keys, .ref q_record_firsts, .ref q_record_entries, .int c_record_size, .int c_record_readSoFar])), (q_book_kinds, .inl (E.2.2.1, 60, .inl a_book_kinds)), (q_book_lengths, .inl (E.2.2.1, 60, .inl a_book_lengths)), (q_book_letters, .inl (E.2.1, 960, .inl a_book_letters)), (q_chord_letters, .inl (E.2.1, 22, .inl a_chord_letters)), (q_lasts, .inl (E.2.2.1, 300, .inl a_lasts)), (q_page_bytes, .inl (E.2.1, 6900, .inl a_page_bytes)), (q_record_entries, .inl (E.2.2.1, 300, .inl a_record_entries)), (q_record_keys, .inl (E.2.2.1, 300, .inl a_record_keys))]
def jr_Transcript_writeTranslation : Room := { frames := 5, cells := 0, slots := 0, locals := 143 }
set_option maxHeartbeats 4000000 in
set_option maxRecDepth 100000 in
theorem jc_Transcript_writeTranslation (l : Launch) (E : jE) (q_this q_book q_record q_page q_chord q_lasts q_behinds q_owners q_book_kinds q_book_strokeCounts q_book_strokes q_book_lengths q_book_letters q_chord_letters q_page_bytes q_record_keys q_record_firsts q_record_entries : Nat) (c_size : Int32) (c_raws : Int32) (c_settled : Int32) (c_book_size : Int32) (c_chord_size : Int32) (c_page_size : Int32) (c_page_shift : Int32) (c_page_link : Int32) (c_page_lastWordLength : Int32) (c_page_lastWordVowels : Int32) (c_record_size : Int32) (c_record_readSoFar : Int32) (a_book_kinds : (Nat → Int32)) (a_book_lengths : (Nat → Int32)) (a_book_letters : (Nat → Int32)) (a_chord_letters : (Nat → Int32)) (a_lasts : (Nat → Int32)) (a_page_bytes : (Nat → Int32)) (a_record_entries : (Nat → Int32)) (a_record_keys : (Nat → Int32)) (x1 : Int32) (N : Nat) {T : Int32 × Int32 × Int32 × Int32 × Int32 × Int32 × Int32 × (Nat → Int32) × (Nat → Int32)} (h : jf_Transcript_writeTranslation N x1 c_size c_book_size c_record_size a_book_kinds a_book_lengths a_book_letters a_lasts a_record_entries a_record_keys c_raws c_chord_size c_page_size c_page_shift c_page_link c_page_lastWordLength c_page_lastWordVowels a_chord_letters a_page_bytes = some T) : jMv l yX9_writeTranslation wsX9_writeTranslation jr_Transcript_writeTranslation E [.ref q_this, .int x1] (jw_Transcript_writeTranslation E q_this q_book q_record q_page q_chord q_lasts q_behinds q_owners q_book_kinds q_book_strokeCounts q_book_strokes q_book_lengths q_book_letters q_chord_letters q_page_bytes q_record_keys q_record_firsts q_record_entries c_size c_raws c_settled c_book_size c_chord_size c_page_size c_page_shift c_page_link c_page_lastWordLength c_page_lastWordVowels c_record_size c_record_readSoFar a_book_kinds a_book_lengths a_book_letters a_chord_letters a_lasts a_page_bytes a_record_entries a_record_keys) (jw_Transcript_writeTranslation E q_this q_book q_record q_page q_chord q_lasts q_behinds q_owners q_book_kinds q_book_strokeCounts q_book_strokes q_book_lengths q_book_letters q_chord_letters q_page_bytes q_record_keys q_record_firsts q_record_entries c_size T.1 c_settled c_book_size T.2.1 T.2.2.1 T.2.2.2.1 T.2.2.2.2.1 T.2.2.2.2.2.1 T.2.2.2.2.2.2.1 c_record_size c_record_readSoFar a_book_kinds a_book_lengths a_book_letters T.2.2.2.2.2.2.2.1 a_lasts T.2.2.2.2.2.2.2.2 a_record_entries a_record_keys) := by
  refine jMv.begin (cc := cX9_writeTranslation) (maxL := 3) (ret := none) (by decide) rfl (Nat.le_of_ble_eq_true rfl) ?_
  intro p e s m args below meth c A ls Q hQ hx hb hr hml hown hlocks hts hK hA hP hD hS hl
  replace hown : s.vm.findClass RX9 = some m.cls := hown
  replace hl : lv_has ls 3 [(0, .ref q_this), (1, .int x1)] := hl
  have hin9 : ∀ w ∈ u_ws RX9 TX9 10, w ∈ wsX9_writeTranslation := by decide +kernel
  have hk_12 := hts (.fieldLink RX9 12 "StenoRoom$Transcript" "chord" "LStenoRoom$Chord;") (by decide +kernel)
  have hk_28 := hts (.fieldLink RX9 28 "StenoRoom$Transcript" "book" "LStenoRoom$Book;") (by decide +kernel)
  have hk_32 := hts (.fieldLink RX9 32 "StenoRoom$Transcript" "record" "LStenoRoom$Reading;") (by decide +kernel)
  have hk_36 := hts (.fieldLink RX9 36 "StenoRoom$Transcript" "page" "LStenoRoom$Page;") (by decide +kernel)
  have hk_57 := hts (.fieldLink RX9 57 "StenoRoom$Transcript" "raws" "I") (by decide +kernel)
  have kb82 : ∀ (z1 : Int32) (z2 : Int32) (c_raws : Int32) (c_chord_size : Int32) (c_page_size : Int32) (c_page_shift : Int32) (c_page_link : Int32) (c_page_lastWordLength : Int32) (c_page_lastWordVowels : Int32) (a_chord_letters : (Nat → Int32)) (a_page_bytes : (Nat → Int32)) (H : Heap) (locs : List Loc) (ls : Array Slot), jf_Transcript_writeTranslation_b82 N c_book_size a_book_kinds a_book_lengths a_book_letters z1 z2 c_raws c_chord_size c_page_size c_page_shift c_page_link c_page_lastWordLength c_page_lastWordVowels a_chord_letters a_page_bytes = some T → va_P E.1 vwCl (jw_Transcript_writeTranslation E q_this q_book q_record q_page q_chord q_lasts q_behinds q_owners q_book_kinds q_book_strokeCounts q_book_strokes q_book_lengths q_book_letters q_chord_letters q_page_bytes q_record_keys q_record_firsts q_record_entries c_size c_raws c_settled c_book_size c_chord_size c_page_size c_page_shift c_page_link c_page_lastWordLength c_page_lastWordVowels c_record_size c_record_readSoFar a_book_kinds a_book_lengths a_book_letters a_chord_letters a_lasts a_page_bytes a_record_entries a_record_keys) H → va_D A (jw_Transcript_writeTranslation E q_this q_book q_record q_page q_chord q_lasts q_behinds q_owners q_book_kinds q_book_strokeCounts q_book_strokes q_book_lengths q_book_letters q_chord_letters q_page_bytes q_record_keys q_record_firsts q_record_entries c_size c_raws c_settled c_book_size c_chord_size c_page_size c_page_shift c_page_link c_page_lastWordLength c_page_lastWordVowels c_record_size c_record_readSoFar a_book_kinds a_book_lengths a_book_letters a_chord_letters a_lasts a_page_bytes a_record_entries a_record_keys) → va_S A s.heap H locs → lv_has ls 3 [(0, .ref q_this)] → W p l e jr_Transcript_writeTranslation s m args below meth c H locs 0 0 Q (F0 m 82 ls [.int z2, .int z1, .ref q_page]) := by
    intro  z1 z2 c_raws c_chord_size c_page_size c_page_shift c_page_link c_page_lastWordLength c_page_lastWordVowels a_chord_letters a_page_bytes H locs ls h hP hD hS hl
    unfold jf_Transcript_writeTranslation_b82 at h
    obtain ⟨⟨c_page_size_82, c_page_shift_82, c_page_link_82, c_page_lastWordLength_82, c_page_lastWordVowels_82, a_page_bytes_82⟩, hf82, h⟩ := jbd h
    refine j_callVv (own := RX9) (As := [.int z1, .int z2]) (rest := []) hx hb hml hown hts hK hA hP hD hS (jc_Page_writeEntry l E q_page q_book q_page_bytes q_book_kinds q_book_strokeCounts q_book_strokes q_book_lengths q_book_letters 6900 c_page_size c_page_shift c_page_link c_page_lastWordLength c_page_lastWordVowels c_book_size a_book_kinds a_book_lengths a_book_letters a_page_bytes z1 z2 N hf82) gX9_writeTranslation_X4_writeEntry rfl ⟨rfl, rfl⟩ 2 (by decide +kernel) rfl rfl 3 4 rfl rfl [3, 1, 5, 6, 7, 10] [0, 2, 4, 8, 9, 11, 12] [0, 8, 1, 7, 2, 9, 10, 11, 3, 4, 12, 5, 6] rfl rfl rfl rfl rfl rfl rfl hl.1 rfl rfl dX9_writeTranslation_82 (fun H locs hP hD hS => ?_)
    replace hP : va_P E.1 vwCl (jw_Transcript_writeTranslation E q_this q_book q_record q_page q_chord q_lasts q_behinds q_owners q_book_kinds q_book_strokeCounts q_book_strokes q_book_lengths q_book_letters q_chord_letters q_page_bytes q_record_keys q_record_firsts q_record_entries c_size c_raws c_settled c_book_size c_chord_size c_page_size_82 c_page_shift_82 c_page_link_82 c_page_lastWordLength_82 c_page_lastWordVowels_82 c_record_size c_record_readSoFar a_book_kinds a_book_lengths a_book_letters a_chord_letters a_lasts a_page_bytes_82 a_record_entries a_record_keys) H := hP
    replace hD : va_D A (jw_Transcript_writeTranslation E q_this q_book q_record q_page q_chord q_lasts q_behinds q_owners q_book_kinds q_book_strokeCounts q_book_strokes q_book_lengths q_book_letters q_chord_letters q_page_bytes q_record_keys q_record_firsts q_record_entries c_size c_raws c_settled c_book_size c_chord_size c_page_size_82 c_page_shift_82 c_page_link_82 c_page_lastWordLength_82 c_page_lastWordVowels_82 c_record_size c_record_readSoFar a_book_kinds a_book_lengths a_book_letters a_chord_letters a_lasts a_page_bytes_82 a_record_entries a_record_keys) := hD
    exact j_vret (u := (c_raws, c_chord_size, c_page_size_82, c_page_shift_82, c_page_link_82, c_page_lastWordLength_82, c_page_lastWordVowels_82, a_chord_letters, a_page_bytes_82)) (wv := (fun T => (jw_Transcript_writeTranslation E q_this q_book q_record q_page q_chord q_lasts q_behinds q_owners q_book_kinds q_book_strokeCounts q_book_strokes q_book_lengths q_book_letters q_chord_letters q_page_bytes q_record_keys q_record_firsts q_record_entries c_size T.1 c_settled c_book_size T.2.1 T.2.2.1 T.2.2.2.1 T.2.2.2.2.1 T.2.2.2.2.2.1 T.2.2.2.2.2.2.1 c_record_size c_record_readSoFar a_book_kinds a_book_lengths a_book_letters T.2.2.2.2.2.2.2.1 a_lasts T.2.2.2.2.2.2.2.2 a_record_entries a_record_keys))) h hQ hx hb hr hlocks hS hP hD dX9_writeTranslation_85
  unfold jf_Transcript_writeTranslation at h
  refine lv_aload_n hx hb dX9_writeTranslation_0 rfl (lv_at hl 0 rfl) ?_
  refine lv_iload_n hx hb dX9_writeTranslation_1 rfl (lv_at hl 1 rfl) ?_
  obtain ⟨r2, hf2, h⟩ := jbd h
  refine j_callVi (own := RX9) (As := [.int x1]) (rest := []) hx hb hml hown hts hK hA hP hD hS (jc_Transcript_entryOf l E q_this q_book q_record q_page q_chord q_lasts q_behinds q_owners q_record_keys q_record_firsts q_record_entries c_size c_raws c_settled c_record_size c_record_readSoFar a_lasts a_record_entries x1 N hf2) gX9_writeTranslation_X9_entryOf rfl ⟨rfl, rfl⟩ 1 (by decide +kernel) rfl rfl 0 9 rfl rfl [0, 4, 9, 11] [1, 2, 3, 5, 6, 7, 8, 10, 12] [9, 0, 1, 2, 10, 3, 4, 5, 6, 11, 7, 12, 8] rfl rfl rfl rfl rfl rfl rfl hl.1 rfl rfl dX9_writeTranslation_2 (fun H locs hP hD hS => ?_)
  replace hP : va_P E.1 vwCl (jw_Transcript_writeTranslation E q_this q_book q_record q_page q_chord q_lasts q_behinds q_owners q_book_kinds q_book_strokeCounts q_book_strokes q_book_lengths q_book_letters q_chord_letters q_page_bytes q_record_keys q_record_firsts q_record_entries c_size c_raws c_settled c_book_size c_chord_size c_page_size c_page_shift c_page_link c_page_lastWordLength c_page_lastWordVowels c_record_size c_record_readSoFar a_book_kinds a_book_lengths a_book_letters a_chord_letters a_lasts a_page_bytes a_record_entries a_record_keys) H := hP
  replace hD : va_D A (jw_Transcript_writeTranslation E q_this q_book q_record q_page q_chord q_lasts q_behinds q_owners q_book_kinds q_book_strokeCounts q_book_strokes q_book_lengths q_book_letters q_chord_letters q_page_bytes q_record_keys q_record_firsts q_record_entries c_size c_raws c_settled c_book_size c_chord_size c_page_size c_page_shift c_page_link c_page_lastWordLength c_page_lastWordVowels c_record_size c_record_readSoFar a_book_kinds a_book_lengths a_book_letters a_chord_letters a_lasts a_page_bytes a_record_entries a_record_keys) := hD
  refine lv_istore_n (lv' := [(2, .int r2), (0, .ref q_this), (1, .int x1)]) hx hb dX9_writeTranslation_5 rfl hl (by decide) rfl (fun ls hl => ?_)
  refine lv_iload_n hx hb dX9_writeTranslation_6 rfl (lv_at hl 0 rfl) ?_
  refine lv_iconst (v := (-1)) hx hb dX9_writeTranslation_7 (by decide) ?_
  refine lv_icmp_ne (tgt := 54) hx hb dX9_writeTranslation_8 (by decide) (fun hq8 => ?_) (fun hq8 => ?_)
  · replace h := jif_f hq8 h
    refine lv_aload_n hx hb dX9_writeTranslation_54 rfl (lv_at hl 1 rfl) ?_
    refine va_get (D := E.1) (ci := 9) (v := .ref q_page) (C := RX9) (T := TX9) (N := 10) hx hb hts hin9 hown hK.1 hP 0 rfl rfl 2 (by decide) hk_36 (fun _ h9 => h9) rfl dX9_writeTranslation_55 ?_
    refine lv_iload_n hx hb dX9_writeTranslation_58 rfl (lv_at hl 0 rfl) ?_
    refine lv_aload_n hx hb dX9_writeTranslation_59 rfl (lv_at hl 1 rfl) ?_
    refine va_get (D := E.1) (ci := 9) (v := .ref q_book) (C := RX9) (T := TX9) (N := 10) hx hb hts hin9 hown hK.1 hP 0 rfl rfl 0 (by decide) hk_28 (fun _ h9 => h9) rfl dX9_writeTranslation_60 ?_
    refine lv_aload_n hx hb dX9_writeTranslation_63 rfl (lv_at hl 1 rfl) ?_
    refine lv_iload_n hx hb dX9_writeTranslation_64 rfl (lv_at hl 2 rfl) ?_
    refine lv_iconst (v := 1) hx hb dX9_writeTranslation_65 (by decide) ?_
    refine lv_isub hx hb dX9_writeTranslation_66 ?_
    obtain ⟨r67, hf67, h⟩ := jbd h
    refine j_callVi (own := RX9) (As := [.int (x1 - 1)]) (rest := [.ref q_book, .int r2, .ref q_page]) hx hb hml hown hts hK hA hP hD hS (jc_Transcript_entryOf l E q_this q_book q_record q_page q_chord q_lasts q_behinds q_owners q_record_keys q_record_firsts q_record_entries c_size c_raws c_settled c_record_size c_record_readSoFar a_lasts a_record_entries (x1 - 1) N hf67) gX9_writeTranslation_X9_entryOf rfl ⟨rfl, rfl⟩ 1 (by decide +kernel) rfl rfl 0 9 rfl rfl [0, 4, 9, 11] [1, 2, 3, 5, 6, 7, 8, 10, 12] [9, 0, 1, 2, 10, 3, 4, 5, 6, 11, 7, 12, 8] rfl rfl rfl rfl rfl rfl rfl hl.1 rfl rfl dX9_writeTranslation_67 (fun H locs hP hD hS => ?_)
    replace hP : va_P E.1 vwCl (jw_Transcript_writeTranslation E q_this q_book q_record q_page q_chord q_lasts q_behinds q_owners q_book_kinds q_book_strokeCounts q_book_strokes q_book_lengths q_book_letters q_chord_letters q_page_bytes q_record_keys q_record_firsts q_record_entries c_size c_raws c_settled c_book_size c_chord_size c_page_size c_page_shift c_page_link c_page_lastWordLength c_page_lastWordVowels c_record_size c_record_readSoFar a_book_kinds a_book_lengths a_book_letters a_chord_letters a_lasts a_page_bytes a_record_entries a_record_keys) H := hP
    replace hD : va_D A (jw_Transcript_writeTranslation E q_this q_book q_record q_page q_chord q_lasts q_behinds q_owners q_book_kinds q_book_strokeCounts q_book_strokes q_book_lengths q_book_letters q_chord_letters q_page_bytes q_record_keys q_record_firsts q_record_entries c_size c_raws c_settled c_book_size c_chord_size c_page_size c_page_shift c_page_link c_page_lastWordLength c_page_lastWordVowels c_record_size c_record_readSoFar a_book_kinds a_book_lengths a_book_letters a_chord_letters a_lasts a_page_bytes a_record_entries a_record_keys) := hD
    obtain ⟨r70, hf70, h⟩ := jbd h
    refine j_callVi (own := RX9) (As := [.int r67]) (rest := [.int r2, .ref q_page]) hx hb hml hown hts hK hA hP hD hS (jc_Book_kindOf l E q_book q_book_kinds q_book_strokeCounts q_book_strokes q_book_lengths q_book_letters c_book_size a_book_kinds r67 N hf70) gX9_writeTranslation_X0_kindOf rfl ⟨rfl, rfl⟩ 1 (by decide +kernel) rfl rfl 1 0 rfl rfl [1, 5] [0, 2, 3, 4, 6, 7, 8, 9, 10, 11, 12] [0, 11, 1, 2, 3, 12, 4, 5, 6, 7, 8, 9, 10] rfl rfl rfl rfl rfl rfl rfl hl.1 rfl rfl dX9_writeTranslation_70 (fun H locs hP hD hS => ?_)
    replace hP : va_P E.1 vwCl (jw_Transcript_writeTranslation E q_this q_book q_record q_page q_chord q_lasts q_behinds q_owners q_book_kinds q_book_strokeCounts q_book_strokes q_book_lengths q_book_letters q_chord_letters q_page_bytes q_record_keys q_record_firsts q_record_entries c_size c_raws c_settled c_book_size c_chord_size c_page_size c_page_shift c_page_link c_page_lastWordLength c_page_lastWordVowels c_record_size c_record_readSoFar a_book_kinds a_book_lengths a_book_letters a_chord_letters a_lasts a_page_bytes a_record_entries a_record_keys) H := hP
    replace hD : va_D A (jw_Transcript_writeTranslation E q_this q_book q_record q_page q_chord q_lasts q_behinds q_owners q_book_kinds q_book_strokeCounts q_book_strokes q_book_lengths q_book_letters q_chord_letters q_page_bytes q_record_keys q_record_firsts q_record_entries c_size c_raws c_settled c_book_size c_chord_size c_page_size c_page_shift c_page_link c_page_lastWordLength c_page_lastWordVowels c_record_size c_record_readSoFar a_book_kinds a_book_lengths a_book_letters a_chord_letters a_lasts a_page_bytes a_record_entries a_record_keys) := hD
    refine lv_iconst (v := 5) hx hb dX9_writeTranslation_73 (by decide) ?_
    refine lv_icmp_ne (tgt := 81) hx hb dX9_writeTranslation_74 (by decide) (fun hq74 => ?_) (fun hq74 => ?_)
    · replace h := jif_f hq74 h
      refine lv_iconst (v := 0) hx hb dX9_writeTranslation_81 (by decide) ?_
      exact kb82   r2 0 c_raws c_chord_size c_page_size c_page_shift c_page_link c_page_lastWordLength c_page_lastWordVowels a_chord_letters a_page_bytes _ _ _ h hP hD hS (lv_sub hl [1] rfl)
    · replace h := jif_t hq74 h
      refine lv_iconst (v := 1) hx hb dX9_writeTranslation_77 (by decide) ?_
      refine lv_goto (tgt := 82) hx hb dX9_writeTranslation_78 (by decide) ?_
      exact kb82   r2 1 c_raws c_chord_size c_page_size c_page_shift c_page_link c_page_lastWordLength c_page_lastWordVowels a_chord_letters a_page_bytes _ _ _ h hP hD hS (lv_sub hl [1] rfl)
  · replace h := jif_t hq8 h
    refine lv_aload_n hx hb dX9_writeTranslation_11 rfl (lv_at hl 1 rfl) ?_
    refine lv_dup hx hb dX9_writeTranslation_12 rfl ?_
    refine va_get (D := E.1) (ci := 9) (v := .int c_raws) (C := RX9) (T := TX9) (N := 10) hx hb hts hin9 hown hK.1 hP 0 rfl rfl 8 (by decide) hk_57 (fun _ h9 => h9) rfl dX9_writeTranslation_13 ?_
    refine lv_iconst (v := 1) hx hb dX9_writeTranslation_16 (by decide) ?_
    refine lv_iadd hx hb dX9_writeTranslation_17 ?_
    refine va_put (D := E.1) (ci := 9) (v := .int (c_raws + 1)) (ty := .int) (C := RX9) (T := TX9) (N := 10) hx hb hts hin9 tyX9 tyX9_ok nmX9 hown hK.1 hP hD hS 0 rfl rfl 8 (by decide) hk_57 (fun _ h9 => h9) rfl (by decide +kernel) rfl rfl (Nat.le_of_ble_eq_true rfl) dX9_writeTranslation_18 (fun H locs hP hD hS => ?_)
    replace hP : va_P E.1 vwCl (jw_Transcript_writeTranslation E q_this q_book q_record q_page q_chord q_lasts q_behinds q_owners q_book_kinds q_book_strokeCounts q_book_strokes q_book_lengths q_book_letters q_chord_letters q_page_bytes q_record_keys q_record_firsts q_record_entries c_size (c_raws + 1) c_settled c_book_size c_chord_size c_page_size c_page_shift c_page_link c_page_lastWordLength c_page_lastWordVowels c_record_size c_record_readSoFar a_book_kinds a_book_lengths a_book_letters a_chord_letters a_lasts a_page_bytes a_record_entries a_record_keys) H := hP
    replace hD : va_D A (jw_Transcript_writeTranslation E q_this q_book q_record q_page q_chord q_lasts q_behinds q_owners q_book_kinds q_book_strokeCounts q_book_strokes q_book_lengths q_book_letters q_chord_letters q_page_bytes q_record_keys q_record_firsts q_record_entries c_size (c_raws + 1) c_settled c_book_size c_chord_size c_page_size c_page_shift c_page_link c_page_lastWordLength c_page_lastWordVowels c_record_size c_record_readSoFar a_book_kinds a_book_lengths a_book_letters a_chord_letters a_lasts a_page_bytes a_record_entries a_record_keys) := hD
    refine lv_aload_n hx hb dX9_writeTranslation_21 rfl (lv_at hl 1 rfl) ?_
    refine va_get (D := E.1) (ci := 9) (v := .ref q_chord) (C := RX9) (T := TX9) (N := 10) hx hb hts hin9 hown hK.1 hP 0 rfl rfl 3 (by decide) hk_12 (fun _ h9 => h9) rfl dX9_writeTranslation_22 ?_
    refine lv_aload_n hx hb dX9_writeTranslation_25 rfl (lv_at hl 1 rfl) ?_
    refine va_get (D := E.1) (ci := 9) (v := .ref q_record) (C := RX9) (T := TX9) (N := 10) hx hb hts hin9 hown hK.1 hP 0 rfl rfl 1 (by decide) hk_32 (fun _ h9 => h9) rfl dX9_writeTranslation_26 ?_
    refine lv_aload_n hx hb dX9_writeTranslation_29 rfl (lv_at hl 1 rfl) ?_
    refine lv_iload_n hx hb dX9_writeTranslation_30 rfl (lv_at hl 2 rfl) ?_
    obtain ⟨r31, hf31, h⟩ := jbd h
    refine j_callVi (own := RX9) (As := [.int x1]) (rest := [.ref q_record, .ref q_chord]) hx hb hml hown hts hK hA hP hD hS (jc_Transcript_lastOf l E q_this q_book q_record q_page q_chord q_lasts q_behinds q_owners c_size (c_raws + 1) c_settled a_lasts x1 N hf31) gX9_writeTranslation_X9_lastOf rfl ⟨rfl, rfl⟩ 1 (by decide +kernel) rfl rfl 0 9 rfl rfl [0, 9] [1, 2, 3, 4, 5, 6, 7, 8, 10, 11, 12] [11, 0, 1, 2, 3, 4, 5, 6, 7, 12, 8, 9, 10] rfl rfl rfl rfl rfl rfl rfl hl.1 rfl rfl dX9_writeTranslation_31 (fun H locs hP hD hS => ?_)
    replace hP : va_P E.1 vwCl (jw_Transcript_writeTranslation E q_this q_book q_record q_page q_chord q_lasts q_behinds q_owners q_book_kinds q_book_strokeCounts q_book_strokes q_book_lengths q_book_letters q_chord_letters q_page_bytes q_record_keys q_record_firsts q_record_entries c_size (c_raws + 1) c_settled c_book_size c_chord_size c_page_size c_page_shift c_page_link c_page_lastWordLength c_page_lastWordVowels c_record_size c_record_readSoFar a_book_kinds a_book_lengths a_book_letters a_chord_letters a_lasts a_page_bytes a_record_entries a_record_keys) H := hP
    replace hD : va_D A (jw_Transcript_writeTranslation E q_this q_book q_record q_page q_chord q_lasts q_behinds q_owners q_book_kinds q_book_strokeCounts q_book_strokes q_book_lengths q_book_letters q_chord_letters q_page_bytes q_record_keys q_record_firsts q_record_entries c_size (c_raws + 1) c_settled c_book_size c_chord_size c_page_size c_page_shift c_page_link c_page_lastWordLength c_page_lastWordVowels c_record_size c_record_readSoFar a_book_kinds a_book_lengths a_book_letters a_chord_letters a_lasts a_page_bytes a_record_entries a_record_keys) := hD
    obtain ⟨r34, hf34, h⟩ := jbd h
    refine j_callVi (own := RX9) (As := [.int r31]) (rest := [.ref q_chord]) hx hb hml hown hts hK hA hP hD hS (jc_Reading_keysAt l E q_record q_book q_record_keys q_record_firsts q_record_entries c_record_size c_record_readSoFar a_record_keys r31 N hf34) gX9_writeTranslation_X6_keysAt rfl ⟨rfl, rfl⟩ 1 (by decide +kernel) rfl rfl 4 6 rfl rfl [4, 12] [0, 1, 2, 3, 5, 6, 7, 8, 9, 10, 11] [0, 1, 2, 3, 11, 4, 5, 6, 7, 8, 9, 10, 12] rfl rfl rfl rfl rfl rfl rfl hl.1 rfl rfl dX9_writeTranslation_34 (fun H locs hP hD hS => ?_)
    replace hP : va_P E.1 vwCl (jw_Transcript_writeTranslation E q_this q_book q_record q_page q_chord q_lasts q_behinds q_owners q_book_kinds q_book_strokeCounts q_book_strokes q_book_lengths q_book_letters q_chord_letters q_page_bytes q_record_keys q_record_firsts q_record_entries c_size (c_raws + 1) c_settled c_book_size c_chord_size c_page_size c_page_shift c_page_link c_page_lastWordLength c_page_lastWordVowels c_record_size c_record_readSoFar a_book_kinds a_book_lengths a_book_letters a_chord_letters a_lasts a_page_bytes a_record_entries a_record_keys) H := hP
    replace hD : va_D A (jw_Transcript_writeTranslation E q_this q_book q_record q_page q_chord q_lasts q_behinds q_owners q_book_kinds q_book_strokeCounts q_book_strokes q_book_lengths q_book_letters q_chord_letters q_page_bytes q_record_keys q_record_firsts q_record_entries c_size (c_raws + 1) c_settled c_book_size c_chord_size c_page_size c_page_shift c_page_link c_page_lastWordLength c_page_lastWordVowels c_record_size c_record_readSoFar a_book_kinds a_book_lengths a_book_letters a_chord_letters a_lasts a_page_bytes a_record_entries a_record_keys) := hD
    obtain ⟨⟨c_chord_size_37, a_chord_letters_37⟩, hf37, h⟩ := jbd h
    refine j_callVv (own := RX9) (As := [.int r34]) (rest := []) hx hb hml hown hts hK hA hP hD hS (jc_Chord_spell l E q_chord q_chord_letters c_chord_size a_chord_letters r34 N hf37) gX9_writeTranslation_X2_spell rfl ⟨rfl, rfl⟩ 1 (by decide +kernel) rfl rfl 2 2 rfl rfl [2, 8] [0, 1, 3, 4, 5, 6, 7, 9, 10, 11, 12] [0, 1, 11, 2, 3, 4, 5, 6, 12, 7, 8, 9, 10] rfl rfl rfl rfl rfl rfl rfl hl.1 rfl rfl dX9_writeTranslation_37 (fun H locs hP hD hS => ?_)
    replace hP : va_P E.1 vwCl (jw_Transcript_writeTranslation E q_this q_book q_record q_page q_chord q_lasts q_behinds q_owners q_book_kinds q_book_strokeCounts q_book_strokes q_book_lengths q_book_letters q_chord_letters q_page_bytes q_record_keys q_record_firsts q_record_entries c_size (c_raws + 1) c_settled c_book_size c_chord_size_37 c_page_size c_page_shift c_page_link c_page_lastWordLength c_page_lastWordVowels c_record_size c_record_readSoFar a_book_kinds a_book_lengths a_book_letters a_chord_letters_37 a_lasts a_page_bytes a_record_entries a_record_keys) H := hP
    replace hD : va_D A (jw_Transcript_writeTranslation E q_this q_book q_record q_page q_chord q_lasts q_behinds q_owners q_book_kinds q_book_strokeCounts q_book_strokes q_book_lengths q_book_letters q_chord_letters q_page_bytes q_record_keys q_record_firsts q_record_entries c_size (c_raws + 1) c_settled c_book_size c_chord_size_37 c_page_size c_page_shift c_page_link c_page_lastWordLength c_page_lastWordVowels c_record_size c_record_readSoFar a_book_kinds a_book_lengths a_book_letters a_chord_letters_37 a_lasts a_page_bytes a_record_entries a_record_keys) := hD
    refine lv_aload_n hx hb dX9_writeTranslation_40 rfl (lv_at hl 1 rfl) ?_
    refine va_get (D := E.1) (ci := 9) (v := .ref q_page) (C := RX9) (T := TX9) (N := 10) hx hb hts hin9 hown hK.1 hP 0 rfl rfl 2 (by decide) hk_36 (fun _ h9 => h9) rfl dX9_writeTranslation_41 ?_
    refine lv_aload_n hx hb dX9_writeTranslation_44 rfl (lv_at hl 1 rfl) ?_
    refine va_get (D := E.1) (ci := 9) (v := .ref q_chord) (C := RX9) (T := TX9) (N := 10) hx hb hts hin9 hown hK.1 hP 0 rfl rfl 3 (by decide) hk_12 (fun _ h9 => h9) rfl dX9_writeTranslation_45 ?_
    obtain ⟨⟨c_page_size_48, c_page_link_48, a_page_bytes_48⟩, hf48, h⟩ := jbd h
    refine j_callVv (own := RX9) (As := [.ref q_chord]) (rest := []) hx hb hml hown hts hK hA hP hD hS (jc_Page_writeRaw l E q_page q_book q_page_bytes q_chord q_chord_letters 6900 c_page_size c_page_shift c_page_link c_page_lastWordLength c_page_lastWordVowels c_chord_size_37 a_chord_letters_37 a_page_bytes N hf48) gX9_writeTranslation_X4_writeRaw rfl ⟨rfl, rfl⟩ 1 (by decide +kernel) rfl rfl 3 4 rfl rfl [3, 2, 8, 10] [0, 1, 4, 5, 6, 7, 9, 11, 12] [0, 1, 10, 9, 2, 3, 4, 5, 11, 6, 12, 7, 8] rfl rfl rfl rfl rfl rfl rfl hl.1 rfl rfl dX9_writeTranslation_48 (fun H locs hP hD hS => ?_)
    replace hP : va_P E.1 vwCl (jw_Transcript_writeTranslation E q_this q_book q_record q_page q_chord q_lasts q_behinds q_owners q_book_kinds q_book_strokeCounts q_book_strokes q_book_lengths q_book_letters q_chord_letters q_page_bytes q_record_keys q_record_firsts q_record_entries c_size (c_raws + 1) c_settled c_book_size c_chord_size_37 c_page_size_48 c_page_shift c_page_link_48 c_page_lastWordLength c_page_lastWordVowels c_record_size c_record_readSoFar a_book_kinds a_book_lengths a_book_letters a_chord_letters_37 a_lasts a_page_bytes_48 a_record_entries a_record_keys) H := hP
    replace hD : va_D A (jw_Transcript_writeTranslation E q_this q_book q_record q_page q_chord q_lasts q_behinds q_owners q_book_kinds q_book_strokeCounts q_book_strokes q_book_lengths q_book_letters q_chord_letters q_page_bytes q_record_keys q_record_firsts q_record_entries c_size (c_raws + 1) c_settled c_book_size c_chord_size_37 c_page_size_48 c_page_shift c_page_link_48 c_page_lastWordLength c_page_lastWordVowels c_record_size c_record_readSoFar a_book_kinds a_book_lengths a_book_letters a_chord_letters_37 a_lasts a_page_bytes_48 a_record_entries a_record_keys) := hD
    refine lv_goto (tgt := 85) hx hb dX9_writeTranslation_51 (by decide) ?_
    exact j_vret (u := ((c_raws + 1), c_chord_size_37, c_page_size_48, c_page_shift, c_page_link_48, c_page_lastWordLength, c_page_lastWordVowels, a_chord_letters_37, a_page_bytes_48)) (wv := (fun T => (jw_Transcript_writeTranslation E q_this q_book q_record q_page q_chord q_lasts q_behinds q_owners q_book_kinds q_book_strokeCounts q_book_strokes q_book_lengths q_book_letters q_chord_letters q_page_bytes q_record_keys q_record_firsts q_record_entries c_size T.1 c_settled c_book_size T.2.1 T.2.2.1 T.2.2.2.1 T.2.2.2.2.1 T.2.2.2.2.2.1 T.2.2.2.2.2.2.1 c_record_size c_record_readSoFar a_book_kinds a_book_lengths a_book_letters T.2.2.2.2.2.2.2.1 a_lasts T.2.2.2.2.2.2.2.2 a_record_entries a_record_keys))) h hQ hx hb hr hlocks hS hP hD dX9_writeTranslation_85
abbrev jw_Page_size (E : jE) (q_this q_book q_bytes : Nat) (c_size : Int32) (c_shift : Int32) (c_link : Int32) (c_lastWordLength : Int32) (c_lastWordVowels : Int32) : va_W := [(q_this, .inr (4, [.ref q_book, .ref q_bytes, .int c_size, .int c_shift, .int c_link, .int c_lastWordLength, .int c_lastWordVowels]))]
def jr_Page_size : Room := { frames := 0, cells := 0, slots := 0, locals := 0 }
set_option maxHeartbeats 4000000 in
set_option maxRecDepth 100000 in
theorem jc_Page_size (l : Launch) (E : jE) (q_this q_book q_bytes : Nat) (c_size : Int32) (c_shift : Int32) (c_link : Int32) (c_lastWordLength : Int32) (c_lastWordVowels : Int32) (N : Nat) {T : Int32} (h : jf_Page_size c_size = some T) : jMi l yX4_size wsX4_size jr_Page_size E [.ref q_this] (jw_Page_size E q_this q_book q_bytes c_size c_shift c_link c_lastWordLength c_lastWordVowels) (T) (jw_Page_size E q_this q_book q_bytes c_size c_shift c_link c_lastWordLength c_lastWordVowels) := by
  refine jMi.begin (cc := cX4_size) (maxL := 1) (ret := (some .int)) (by decide) rfl (Nat.le_of_ble_eq_true rfl) ?_
  intro p e s m args below meth c A ls Q hQ hx hb hr hml hown hlocks hts hK hA hP hD hS hl
  replace hown : s.vm.findClass RX4 = some m.cls := hown
  replace hl : lv_has ls 1 [(0, .ref q_this)] := hl
  have hin4 : ∀ w ∈ u_ws RX4 TX4 7, w ∈ wsX4_size := by decide +kernel
  have hk_25 := hts (.fieldLink RX4 25 "StenoRoom$Page" "size" "I") (by decide +kernel)
  unfold jf_Page_size at h
  refine lv_aload_n hx hb dX4_size_0 rfl (lv_at hl 0 rfl) ?_
  refine va_get (D := E.1) (ci := 4) (v := .int c_size) (C := RX4) (T := TX4) (N := 7) hx hb hts hin4 hown hK.1 hP 0 rfl rfl 2 (by decide) hk_25 (fun _ h9 => h9) rfl dX4_size_1 ?_
  exact j_iret (u := c_size) (rv := (fun T => T)) (wv := (fun _ => (jw_Page_size E q_this q_book q_bytes c_size c_shift c_link c_lastWordLength c_lastWordVowels))) h hQ hx hb hr rfl hlocks hS hP hD dX4_size_4
abbrev jw_Transcript_settle (E : jE) (q_this q_book q_record q_page q_chord q_lasts q_behinds q_owners q_book_kinds q_book_strokeCounts q_book_strokes q_book_lengths q_book_letters q_chord_letters q_page_bytes q_record_keys q_record_firsts q_record_entries : Nat) (c_size : Int32) (c_raws : Int32) (c_settled : Int32) (c_book_size : Int32) (c_chord_size : Int32) (c_page_size : Int32) (c_page_shift : Int32) (c_page_link : Int32) (c_page_lastWordLength : Int32) (c_page_lastWordVowels : Int32) (c_record_size : Int32) (c_record_readSoFar : Int32) (a_behinds : (Nat → Int32)) (a_book_kinds : (Nat → Int32)) (a_book_lengths : (Nat → Int32)) (a_book_letters : (Nat → Int32)) (a_book_strokeCounts : (Nat → Int32)) (a_book_strokes : (Nat → Int32)) (a_chord_letters : (Nat → Int32)) (a_lasts : (Nat → Int32)) (a_owners : (Nat → Int32)) (a_page_bytes : (Nat → Int32)) (a_record_entries : (Nat → Int32)) (a_record_firsts : (Nat → Int32)) (a_record_keys : (Nat → Int32)) : va_W := [(q_this, .inr (9, [.ref q_book, .ref q_record, .ref q_page, .ref q_chord, .ref q_lasts, .ref q_behinds, .ref q_owners, .int c_size, .int c_raws, .int c_settled])), (q_book, .inr (0, [.ref q_book_kinds, .ref q_book_strokeCounts, .ref q_book_strokes, .ref q_book_lengths, .ref q_book_letters, .int c_book_size])), (q_chord, .inr (2, [.ref q_chord_letters, .int c_chord_size])), (q_page, .inr (4, [.ref q_book, .ref q_page_bytes, .int c_page_size, .int c_page_shift, .int c_page_link, .int c_page_lastWordLength, .int c_page_lastWordVowels])), (q_record, .inr (6, [.ref q_book, .ref q_record_keys, .ref q_record_firsts, .ref q_record_entries, .int c_record_size, .int c_record_readSoFar])), (q_behinds, .inl (E.2.2.1, 300, .inl a_behinds)), (q_book_kinds, .inl (E.2.2.1, 60, .inl a_book_kinds)), (q_book_lengths, .inl (E.2.2.1, 60, .inl a_book_lengths)), (q_book_letters, .inl (E.2.1, 960, .inl a_book_letters)), (q_book_strokeCounts, .inl (E.2.2.1, 60, .inl a_book_strokeCounts)), (q_book_strokes, .inl (E.2.2.1, 300, .inl a_book_strokes)), (q_chord_letters, .inl (E.2.1, 22, .inl a_chord_letters)), (q_lasts, .inl (E.2.2.1, 300, .inl a_lasts)), (q_owners, .inl (E.2.2.1, 300, .inl a_owners)), (q_page_bytes, .inl (E.2.1, 6900, .inl a_page_bytes)), (q_record_entries, .inl (E.2.2.1, 300, .inl a_record_entries)), (q_record_firsts, .inl (E.2.2.1, 300, .inl a_record_firsts)), (q_record_keys, .inl (E.2.2.1, 300, .inl a_record_keys))]
def jr_Transcript_settle : Room := { frames := 6, cells := 0, slots := 0, locals := 165 }
set_option maxHeartbeats 4000000 in
set_option maxRecDepth 100000 in
theorem jc_Transcript_settle (l : Launch) (E : jE) (q_this q_book q_record q_page q_chord q_lasts q_behinds q_owners q_book_kinds q_book_strokeCounts q_book_strokes q_book_lengths q_book_letters q_chord_letters q_page_bytes q_record_keys q_record_firsts q_record_entries : Nat) (c_size : Int32) (c_raws : Int32) (c_settled : Int32) (c_book_size : Int32) (c_chord_size : Int32) (c_page_size : Int32) (c_page_shift : Int32) (c_page_link : Int32) (c_page_lastWordLength : Int32) (c_page_lastWordVowels : Int32) (c_record_size : Int32) (c_record_readSoFar : Int32) (a_behinds : (Nat → Int32)) (a_book_kinds : (Nat → Int32)) (a_book_lengths : (Nat → Int32)) (a_book_letters : (Nat → Int32)) (a_book_strokeCounts : (Nat → Int32)) (a_book_strokes : (Nat → Int32)) (a_chord_letters : (Nat → Int32)) (a_lasts : (Nat → Int32)) (a_owners : (Nat → Int32)) (a_page_bytes : (Nat → Int32)) (a_record_entries : (Nat → Int32)) (a_record_firsts : (Nat → Int32)) (a_record_keys : (Nat → Int32)) (N : Nat) {T : Int32 × Int32 × Int32 × Int32 × Int32 × Int32 × Int32 × Int32 × Int32 × Int32 × (Nat → Int32) × (Nat → Int32) × (Nat → Int32) × (Nat → Int32) × (Nat → Int32) × (Nat → Int32) × (Nat → Int32)} (h : jf_Transcript_settle N c_book_size c_record_size a_book_kinds a_book_lengths a_book_letters a_book_strokeCounts a_book_strokes a_record_keys c_size c_raws c_settled c_chord_size c_page_size c_page_shift c_page_link c_page_lastWordLength c_page_lastWordVowels c_record_readSoFar a_behinds a_chord_letters a_lasts a_owners a_page_bytes a_record_entries a_record_firsts = some T) : jMv l yX9_settle wsX9_settle jr_Transcript_settle E [.ref q_this] (jw_Transcript_settle E q_this q_book q_record q_page q_chord q_lasts q_behinds q_owners q_book_kinds q_book_strokeCounts q_book_strokes q_book_lengths q_book_letters q_chord_letters q_page_bytes q_record_keys q_record_firsts q_record_entries c_size c_raws c_settled c_book_size c_chord_size c_page_size c_page_shift c_page_link c_page_lastWordLength c_page_lastWordVowels c_record_size c_record_readSoFar a_behinds a_book_kinds a_book_lengths a_book_letters a_book_strokeCounts a_book_strokes a_chord_letters a_lasts a_owners a_page_bytes a_record_entries a_record_firsts a_record_keys) (jw_Transcript_settle E q_this q_book q_record q_page q_chord q_lasts q_behinds q_owners q_book_kinds q_book_strokeCounts q_book_strokes q_book_lengths q_book_letters q_chord_letters q_page_bytes q_record_keys q_record_firsts q_record_entries T.1 T.2.1 T.2.2.1 c_book_size T.2.2.2.1 T.2.2.2.2.1 T.2.2.2.2.2.1 T.2.2.2.2.2.2.1 T.2.2.2.2.2.2.2.1 T.2.2.2.2.2.2.2.2.1 c_record_size T.2.2.2.2.2.2.2.2.2.1 T.2.2.2.2.2.2.2.2.2.2.1 a_book_kinds a_book_lengths a_book_letters a_book_strokeCounts a_book_strokes T.2.2.2.2.2.2.2.2.2.2.2.1 T.2.2.2.2.2.2.2.2.2.2.2.2.1 T.2.2.2.2.2.2.2.2.2.2.2.2.2.1 T.2.2.2.2.2.2.2.2.2.2.2.2.2.2.1 T.2.2.2.2.2.2.2.2.2.2.2.2.2.2.2.1 T.2.2.2.2.2.2.2.2.2.2.2.2.2.2.2.2 a_record_keys) := by
  refine jMv.begin (cc := cX9_settle) (maxL := 2) (ret := none) (by decide) rfl (Nat.le_of_ble_eq_true rfl) ?_
  intro p e s m args below meth c A ls Q hQ hx hb hr hml hown hlocks hts hK hA hP hD hS hl
  replace hown : s.vm.findClass RX9 = some m.cls := hown
  replace hl : lv_has ls 2 [(0, .ref q_this)] := hl
  have hin9 : ∀ w ∈ u_ws RX9 TX9 10, w ∈ wsX9_settle := by decide +kernel
  have hk_22 := hts (.fieldLink RX9 22 "StenoRoom$Transcript" "behinds" "[I") (by decide +kernel)
  have hk_32 := hts (.fieldLink RX9 32 "StenoRoom$Transcript" "record" "LStenoRoom$Reading;") (by decide +kernel)
  have hk_36 := hts (.fieldLink RX9 36 "StenoRoom$Transcript" "page" "LStenoRoom$Page;") (by decide +kernel)
  have hk_40 := hts (.fieldLink RX9 40 "StenoRoom$Transcript" "settled" "Z") (by decide +kernel)
  have hk_57 := hts (.fieldLink RX9 57 "StenoRoom$Transcript" "raws" "I") (by decide +kernel)
  have hk_61 := hts (.fieldLink RX9 61 "StenoRoom$Transcript" "size" "I") (by decide +kernel)
  have kb65 : ∀ (c_size : Int32) (c_raws : Int32) (c_settled : Int32) (c_chord_size : Int32) (c_page_size : Int32) (c_page_shift : Int32) (c_page_link : Int32) (c_page_lastWordLength : Int32) (c_page_lastWordVowels : Int32) (c_record_readSoFar : Int32) (a_behinds : (Nat → Int32)) (a_chord_letters : (Nat → Int32)) (a_lasts : (Nat → Int32)) (a_owners : (Nat → Int32)) (a_page_bytes : (Nat → Int32)) (a_record_entries : (Nat → Int32)) (a_record_firsts : (Nat → Int32)) (H : Heap) (locs : List Loc) (ls : Array Slot), jf_Transcript_settle_b65 c_size c_raws c_settled c_chord_size c_page_size c_page_shift c_page_link c_page_lastWordLength c_page_lastWordVowels c_record_readSoFar a_behinds a_chord_letters a_lasts a_owners a_page_bytes a_record_entries a_record_firsts = some T → va_P E.1 vwCl (jw_Transcript_settle E q_this q_book q_record q_page q_chord q_lasts q_behinds q_owners q_book_kinds q_book_strokeCounts q_book_strokes q_book_lengths q_book_letters q_chord_letters q_page_bytes q_record_keys q_record_firsts q_record_entries c_size c_raws c_settled c_book_size c_chord_size c_page_size c_page_shift c_page_link c_page_lastWordLength c_page_lastWordVowels c_record_size c_record_readSoFar a_behinds a_book_kinds a_book_lengths a_book_letters a_book_strokeCounts a_book_strokes a_chord_letters a_lasts a_owners a_page_bytes a_record_entries a_record_firsts a_record_keys) H → va_D A (jw_Transcript_settle E q_this q_book q_record q_page q_chord q_lasts q_behinds q_owners q_book_kinds q_book_strokeCounts q_book_strokes q_book_lengths q_book_letters q_chord_letters q_page_bytes q_record_keys q_record_firsts q_record_entries c_size c_raws c_settled c_book_size c_chord_size c_page_size c_page_shift c_page_link c_page_lastWordLength c_page_lastWordVowels c_record_size c_record_readSoFar a_behinds a_book_kinds a_book_lengths a_book_letters a_book_strokeCounts a_book_strokes a_chord_letters a_lasts a_owners a_page_bytes a_record_entries a_record_firsts a_record_keys) → va_S A s.heap H locs → lv_has ls 2 [(0, .ref q_this)] → W p l e jr_Transcript_settle s m args below meth c H locs 0 0 Q (F0 m 65 ls []) := by
    intro  c_size c_raws c_settled c_chord_size c_page_size c_page_shift c_page_link c_page_lastWordLength c_page_lastWordVowels c_record_readSoFar a_behinds a_chord_letters a_lasts a_owners a_page_bytes a_record_entries a_record_firsts H locs ls h hP hD hS hl
    unfold jf_Transcript_settle_b65 at h
    refine lv_aload_n hx hb dX9_settle_65 rfl (lv_at hl 0 rfl) ?_
    refine lv_iconst (v := 1) hx hb dX9_settle_66 (by decide) ?_
    refine va_put (D := E.1) (ci := 9) (v := .int 1) (ty := .boolean) (C := RX9) (T := TX9) (N := 10) hx hb hts hin9 tyX9 tyX9_ok nmX9 hown hK.1 hP hD hS 0 rfl rfl 9 (by decide) hk_40 (fun _ h9 => h9) rfl (by decide +kernel) rfl rfl (Nat.le_of_ble_eq_true rfl) dX9_settle_67 (fun H locs hP hD hS => ?_)
    replace hP : va_P E.1 vwCl (jw_Transcript_settle E q_this q_book q_record q_page q_chord q_lasts q_behinds q_owners q_book_kinds q_book_strokeCounts q_book_strokes q_book_lengths q_book_letters q_chord_letters q_page_bytes q_record_keys q_record_firsts q_record_entries c_size c_raws 1 c_book_size c_chord_size c_page_size c_page_shift c_page_link c_page_lastWordLength c_page_lastWordVowels c_record_size c_record_readSoFar a_behinds a_book_kinds a_book_lengths a_book_letters a_book_strokeCounts a_book_strokes a_chord_letters a_lasts a_owners a_page_bytes a_record_entries a_record_firsts a_record_keys) H := hP
    replace hD : va_D A (jw_Transcript_settle E q_this q_book q_record q_page q_chord q_lasts q_behinds q_owners q_book_kinds q_book_strokeCounts q_book_strokes q_book_lengths q_book_letters q_chord_letters q_page_bytes q_record_keys q_record_firsts q_record_entries c_size c_raws 1 c_book_size c_chord_size c_page_size c_page_shift c_page_link c_page_lastWordLength c_page_lastWordVowels c_record_size c_record_readSoFar a_behinds a_book_kinds a_book_lengths a_book_letters a_book_strokeCounts a_book_strokes a_chord_letters a_lasts a_owners a_page_bytes a_record_entries a_record_firsts a_record_keys) := hD
    exact j_vret (u := (c_size, c_raws, 1, c_chord_size, c_page_size, c_page_shift, c_page_link, c_page_lastWordLength, c_page_lastWordVowels, c_record_readSoFar, a_behinds, a_chord_letters, a_lasts, a_owners, a_page_bytes, a_record_entries, a_record_firsts)) (wv := (fun T => (jw_Transcript_settle E q_this q_book q_record q_page q_chord q_lasts q_behinds q_owners q_book_kinds q_book_strokeCounts q_book_strokes q_book_lengths q_book_letters q_chord_letters q_page_bytes q_record_keys q_record_firsts q_record_entries T.1 T.2.1 T.2.2.1 c_book_size T.2.2.2.1 T.2.2.2.2.1 T.2.2.2.2.2.1 T.2.2.2.2.2.2.1 T.2.2.2.2.2.2.2.1 T.2.2.2.2.2.2.2.2.1 c_record_size T.2.2.2.2.2.2.2.2.2.1 T.2.2.2.2.2.2.2.2.2.2.1 a_book_kinds a_book_lengths a_book_letters a_book_strokeCounts a_book_strokes T.2.2.2.2.2.2.2.2.2.2.2.1 T.2.2.2.2.2.2.2.2.2.2.2.2.1 T.2.2.2.2.2.2.2.2.2.2.2.2.2.1 T.2.2.2.2.2.2.2.2.2.2.2.2.2.2.1 T.2.2.2.2.2.2.2.2.2.2.2.2.2.2.2.1 T.2.2.2.2.2.2.2.2.2.2.2.2.2.2.2.2 a_record_keys))) h hQ hx hb hr hlocks hS hP hD dX9_settle_70
  have kb33 : ∀ (n : Nat) (x1 : Int32) (c_size : Int32) (c_raws : Int32) (c_settled : Int32) (c_chord_size : Int32) (c_page_size : Int32) (c_page_shift : Int32) (c_page_link : Int32) (c_page_lastWordLength : Int32) (c_page_lastWordVowels : Int32) (c_record_readSoFar : Int32) (a_behinds : (Nat → Int32)) (a_chord_letters : (Nat → Int32)) (a_lasts : (Nat → Int32)) (a_owners : (Nat → Int32)) (a_page_bytes : (Nat → Int32)) (a_record_entries : (Nat → Int32)) (a_record_firsts : (Nat → Int32)) (H : Heap) (locs : List Loc) (ls : Array Slot), jf_Transcript_settle_b33 N c_book_size c_record_size a_book_kinds a_book_lengths a_book_letters a_record_keys n x1 c_size c_raws c_settled c_chord_size c_page_size c_page_shift c_page_link c_page_lastWordLength c_page_lastWordVowels c_record_readSoFar a_behinds a_chord_letters a_lasts a_owners a_page_bytes a_record_entries a_record_firsts = some T → va_P E.1 vwCl (jw_Transcript_settle E q_this q_book q_record q_page q_chord q_lasts q_behinds q_owners q_book_kinds q_book_strokeCounts q_book_strokes q_book_lengths q_book_letters q_chord_letters q_page_bytes q_record_keys q_record_firsts q_record_entries c_size c_raws c_settled c_book_size c_chord_size c_page_size c_page_shift c_page_link c_page_lastWordLength c_page_lastWordVowels c_record_size c_record_readSoFar a_behinds a_book_kinds a_book_lengths a_book_letters a_book_strokeCounts a_book_strokes a_chord_letters a_lasts a_owners a_page_bytes a_record_entries a_record_firsts a_record_keys) H → va_D A (jw_Transcript_settle E q_this q_book q_record q_page q_chord q_lasts q_behinds q_owners q_book_kinds q_book_strokeCounts q_book_strokes q_book_lengths q_book_letters q_chord_letters q_page_bytes q_record_keys q_record_firsts q_record_entries c_size c_raws c_settled c_book_size c_chord_size c_page_size c_page_shift c_page_link c_page_lastWordLength c_page_lastWordVowels c_record_size c_record_readSoFar a_behinds a_book_kinds a_book_lengths a_book_letters a_book_strokeCounts a_book_strokes a_chord_letters a_lasts a_owners a_page_bytes a_record_entries a_record_firsts a_record_keys) → va_S A s.heap H locs → lv_has ls 2 [(0, .ref q_this), (1, .int x1)] → W p l e jr_Transcript_settle s m args below meth c H locs 0 0 Q (F0 m 33 ls []) := by
    intro n
    induction n with
    | zero => intro x1 c_size c_raws c_settled c_chord_size c_page_size c_page_shift c_page_link c_page_lastWordLength c_page_lastWordVowels c_record_readSoFar a_behinds a_chord_letters a_lasts a_owners a_page_bytes a_record_entries a_record_firsts H locs ls h; exact j_none (α := Int32 × Int32 × Int32 × Int32 × Int32 × Int32 × Int32 × Int32 × Int32 × Int32 × (Nat → Int32) × (Nat → Int32) × (Nat → Int32) × (Nat → Int32) × (Nat → Int32) × (Nat → Int32) × (Nat → Int32)) h
    | succ n ih =>
      intro x1 c_size c_raws c_settled c_chord_size c_page_size c_page_shift c_page_link c_page_lastWordLength c_page_lastWordVowels c_record_readSoFar a_behinds a_chord_letters a_lasts a_owners a_page_bytes a_record_entries a_record_firsts H locs ls h hP hD hS hl
      rw [jf_Transcript_settle_b33] at h
      refine lv_iload_n hx hb dX9_settle_33 rfl (lv_at hl 1 rfl) ?_
      refine lv_aload_n hx hb dX9_settle_34 rfl (lv_at hl 0 rfl) ?_
      refine va_get (D := E.1) (ci := 9) (v := .int c_size) (C := RX9) (T := TX9) (N := 10) hx hb hts hin9 hown hK.1 hP 0 rfl rfl 7 (by decide) hk_61 (fun _ h9 => h9) rfl dX9_settle_35 ?_
      refine lv_icmp_ge (tgt := 65) hx hb dX9_settle_38 (by decide) (fun hq38 => ?_) (fun hq38 => ?_)
      · replace h := jif_t hq38 h
        exact kb65   c_size c_raws c_settled c_chord_size c_page_size c_page_shift c_page_link c_page_lastWordLength c_page_lastWordVowels c_record_readSoFar a_behinds a_chord_letters a_lasts a_owners a_page_bytes a_record_entries a_record_firsts _ _ _ h hP hD hS (lv_sub hl [0] rfl)
      · replace h := jif_f hq38 h
        refine lv_aload_n hx hb dX9_settle_41 rfl (lv_at hl 0 rfl) ?_
        refine lv_iload_n hx hb dX9_settle_42 rfl (lv_at hl 1 rfl) ?_
        obtain ⟨⟨c_raws_43, c_chord_size_43, c_page_size_43, c_page_shift_43, c_page_link_43, c_page_lastWordLength_43, c_page_lastWordVowels_43, a_chord_letters_43, a_page_bytes_43⟩, hf43, h⟩ := jbd h
        refine j_callVv (own := RX9) (As := [.int x1]) (rest := []) hx hb hml hown hts hK hA hP hD hS (jc_Transcript_writeTranslation l E q_this q_book q_record q_page q_chord q_lasts q_behinds q_owners q_book_kinds q_book_strokeCounts q_book_strokes q_book_lengths q_book_letters q_chord_letters q_page_bytes q_record_keys q_record_firsts q_record_entries c_size c_raws c_settled c_book_size c_chord_size c_page_size c_page_shift c_page_link c_page_lastWordLength c_page_lastWordVowels c_record_size c_record_readSoFar a_book_kinds a_book_lengths a_book_letters a_chord_letters a_lasts a_page_bytes a_record_entries a_record_keys x1 N hf43) gX9_settle_X9_writeTranslation rfl ⟨rfl, rfl⟩ 1 (by decide +kernel) rfl rfl 0 9 rfl rfl [0, 1, 2, 3, 4, 6, 7, 8, 11, 12, 14, 15, 17] [5, 9, 10, 13, 16] [5, 6, 7, 8, 9, 0, 10, 11, 12, 1, 2, 13, 14, 3, 15, 16, 4, 17] rfl rfl rfl rfl rfl rfl rfl hl.1 rfl rfl dX9_settle_43 (fun H locs hP hD hS => ?_)
        replace hP : va_P E.1 vwCl (jw_Transcript_settle E q_this q_book q_record q_page q_chord q_lasts q_behinds q_owners q_book_kinds q_book_strokeCounts q_book_strokes q_book_lengths q_book_letters q_chord_letters q_page_bytes q_record_keys q_record_firsts q_record_entries c_size c_raws_43 c_settled c_book_size c_chord_size_43 c_page_size_43 c_page_shift_43 c_page_link_43 c_page_lastWordLength_43 c_page_lastWordVowels_43 c_record_size c_record_readSoFar a_behinds a_book_kinds a_book_lengths a_book_letters a_book_strokeCounts a_book_strokes a_chord_letters_43 a_lasts a_owners a_page_bytes_43 a_record_entries a_record_firsts a_record_keys) H := hP
        replace hD : va_D A (jw_Transcript_settle E q_this q_book q_record q_page q_chord q_lasts q_behinds q_owners q_book_kinds q_book_strokeCounts q_book_strokes q_book_lengths q_book_letters q_chord_letters q_page_bytes q_record_keys q_record_firsts q_record_entries c_size c_raws_43 c_settled c_book_size c_chord_size_43 c_page_size_43 c_page_shift_43 c_page_link_43 c_page_lastWordLength_43 c_page_lastWordVowels_43 c_record_size c_record_readSoFar a_behinds a_book_kinds a_book_lengths a_book_letters a_book_strokeCounts a_book_strokes a_chord_letters_43 a_lasts a_owners a_page_bytes_43 a_record_entries a_record_firsts a_record_keys) := hD
        refine lv_aload_n hx hb dX9_settle_46 rfl (lv_at hl 0 rfl) ?_
        refine va_get (D := E.1) (ci := 9) (v := .ref q_behinds) (C := RX9) (T := TX9) (N := 10) hx hb hts hin9 hown hK.1 hP 0 rfl rfl 5 (by decide) hk_22 (fun _ h9 => h9) rfl dX9_settle_47 ?_
        refine lv_iload_n hx hb dX9_settle_50 rfl (lv_at hl 1 rfl) ?_
        refine lv_aload_n hx hb dX9_settle_51 rfl (lv_at hl 0 rfl) ?_
        refine va_get (D := E.1) (ci := 9) (v := .ref q_page) (C := RX9) (T := TX9) (N := 10) hx hb hts hin9 hown hK.1 hP 0 rfl rfl 2 (by decide) hk_36 (fun _ h9 => h9) rfl dX9_settle_52 ?_
        obtain ⟨r55, hf55, h⟩ := jbd h
        refine j_callVi (own := RX9) (As := []) (rest := [.int x1, .ref q_behinds]) hx hb hml hown hts hK hA hP hD hS (jc_Page_size l E q_page q_book q_page_bytes c_page_size_43 c_page_shift_43 c_page_link_43 c_page_lastWordLength_43 c_page_lastWordVowels_43 N hf55) gX9_settle_X4_size rfl ⟨rfl, rfl⟩ 0 (by decide +kernel) rfl rfl 3 4 rfl rfl [3] [0, 1, 2, 4, 5, 6, 7, 8, 9, 10, 11, 12, 13, 14, 15, 16, 17] [0, 1, 2, 17, 3, 4, 5, 6, 7, 8, 9, 10, 11, 12, 13, 14, 15, 16] rfl rfl rfl rfl rfl rfl rfl hl.1 rfl rfl dX9_settle_55 (fun H locs hP hD hS => ?_)
        replace hP : va_P E.1 vwCl (jw_Transcript_settle E q_this q_book q_record q_page q_chord q_lasts q_behinds q_owners q_book_kinds q_book_strokeCounts q_book_strokes q_book_lengths q_book_letters q_chord_letters q_page_bytes q_record_keys q_record_firsts q_record_entries c_size c_raws_43 c_settled c_book_size c_chord_size_43 c_page_size_43 c_page_shift_43 c_page_link_43 c_page_lastWordLength_43 c_page_lastWordVowels_43 c_record_size c_record_readSoFar a_behinds a_book_kinds a_book_lengths a_book_letters a_book_strokeCounts a_book_strokes a_chord_letters_43 a_lasts a_owners a_page_bytes_43 a_record_entries a_record_firsts a_record_keys) H := hP
        replace hD : va_D A (jw_Transcript_settle E q_this q_book q_record q_page q_chord q_lasts q_behinds q_owners q_book_kinds q_book_strokeCounts q_book_strokes q_book_lengths q_book_letters q_chord_letters q_page_bytes q_record_keys q_record_firsts q_record_entries c_size c_raws_43 c_settled c_book_size c_chord_size_43 c_page_size_43 c_page_shift_43 c_page_link_43 c_page_lastWordLength_43 c_page_lastWordVowels_43 c_record_size c_record_readSoFar a_behinds a_book_kinds a_book_lengths a_book_letters a_book_strokeCounts a_book_strokes a_chord_letters_43 a_lasts a_owners a_page_bytes_43 a_record_entries a_record_firsts a_record_keys) := hD
        obtain ⟨g58, h⟩ := jga_e h
        refine va_iast hx hb hK.1 hP hD hS 5 1 rfl rfl g58 dX9_settle_58 (fun H locs hP hD hS => ?_)
        replace hP : va_P E.1 vwCl (jw_Transcript_settle E q_this q_book q_record q_page q_chord q_lasts q_behinds q_owners q_book_kinds q_book_strokeCounts q_book_strokes q_book_lengths q_book_letters q_chord_letters q_page_bytes q_record_keys q_record_firsts q_record_entries c_size c_raws_43 c_settled c_book_size c_chord_size_43 c_page_size_43 c_page_shift_43 c_page_link_43 c_page_lastWordLength_43 c_page_lastWordVowels_43 c_record_size c_record_readSoFar (upd a_behinds x1.toNatClampNeg r55) a_book_kinds a_book_lengths a_book_letters a_book_strokeCounts a_book_strokes a_chord_letters_43 a_lasts a_owners a_page_bytes_43 a_record_entries a_record_firsts a_record_keys) H := hP
        replace hD : va_D A (jw_Transcript_settle E q_this q_book q_record q_page q_chord q_lasts q_behinds q_owners q_book_kinds q_book_strokeCounts q_book_strokes q_book_lengths q_book_letters q_chord_letters q_page_bytes q_record_keys q_record_firsts q_record_entries c_size c_raws_43 c_settled c_book_size c_chord_size_43 c_page_size_43 c_page_shift_43 c_page_link_43 c_page_lastWordLength_43 c_page_lastWordVowels_43 c_record_size c_record_readSoFar (upd a_behinds x1.toNatClampNeg r55) a_book_kinds a_book_lengths a_book_letters a_book_strokeCounts a_book_strokes a_chord_letters_43 a_lasts a_owners a_page_bytes_43 a_record_entries a_record_firsts a_record_keys) := hD
        refine lv_iinc (v := (x1 + 1)) (lv' := [(1, .int (x1 + 1)), (0, .ref q_this)]) hx hb dX9_settle_59 hl (k := 1) rfl rfl (by decide) rfl (fun ls hl => ?_)
        refine lv_goto (tgt := 33) hx hb dX9_settle_62 (by decide) ?_
        exact ih (x1 + 1) c_size c_raws_43 c_settled c_chord_size_43 c_page_size_43 c_page_shift_43 c_page_link_43 c_page_lastWordLength_43 c_page_lastWordVowels_43 c_record_readSoFar (upd a_behinds x1.toNatClampNeg r55) a_chord_letters_43 a_lasts a_owners a_page_bytes_43 a_record_entries a_record_firsts _ _ _ h hP hD hS (lv_sub hl [1, 0] rfl)
  unfold jf_Transcript_settle at h
  refine lv_aload_n hx hb dX9_settle_0 rfl (lv_at hl 0 rfl) ?_
  refine va_get (D := E.1) (ci := 9) (v := .int c_settled) (C := RX9) (T := TX9) (N := 10) hx hb hts hin9 hown hK.1 hP 0 rfl rfl 9 (by decide) hk_40 (fun _ h9 => h9) rfl dX9_settle_1 ?_
  refine lv_if_eq (tgt := 8) hx hb dX9_settle_4 (by decide) (fun hq4 => ?_) (fun hq4 => ?_)
  · replace h := jif_t hq4 h
    refine lv_aload_n hx hb dX9_settle_8 rfl (lv_at hl 0 rfl) ?_
    refine va_get (D := E.1) (ci := 9) (v := .ref q_record) (C := RX9) (T := TX9) (N := 10) hx hb hts hin9 hown hK.1 hP 0 rfl rfl 1 (by decide) hk_32 (fun _ h9 => h9) rfl dX9_settle_9 ?_
    obtain ⟨⟨c_record_readSoFar_12, a_record_entries_12, a_record_firsts_12⟩, hf12, h⟩ := jbd h
    refine j_callVv (own := RX9) (As := []) (rest := []) hx hb hml hown hts hK hA hP hD hS (jc_Reading_read l E q_record q_book q_record_keys q_record_firsts q_record_entries q_book_kinds q_book_strokeCounts q_book_strokes q_book_lengths q_book_letters c_record_size c_record_readSoFar c_book_size a_book_strokeCounts a_book_strokes a_record_entries a_record_firsts a_record_keys N hf12) gX9_settle_X6_read rfl ⟨rfl, rfl⟩ 0 (by decide +kernel) rfl rfl 4 6 rfl rfl [4, 1, 9, 10, 15, 16, 17] [0, 2, 3, 5, 6, 7, 8, 11, 12, 13, 14] [0, 12, 1, 2, 11, 3, 4, 5, 6, 13, 14, 7, 8, 9, 10, 15, 16, 17] rfl rfl rfl rfl rfl rfl rfl hl.1 rfl rfl dX9_settle_12 (fun H locs hP hD hS => ?_)
    replace hP : va_P E.1 vwCl (jw_Transcript_settle E q_this q_book q_record q_page q_chord q_lasts q_behinds q_owners q_book_kinds q_book_strokeCounts q_book_strokes q_book_lengths q_book_letters q_chord_letters q_page_bytes q_record_keys q_record_firsts q_record_entries c_size c_raws c_settled c_book_size c_chord_size c_page_size c_page_shift c_page_link c_page_lastWordLength c_page_lastWordVowels c_record_size c_record_readSoFar_12 a_behinds a_book_kinds a_book_lengths a_book_letters a_book_strokeCounts a_book_strokes a_chord_letters a_lasts a_owners a_page_bytes a_record_entries_12 a_record_firsts_12 a_record_keys) H := hP
    replace hD : va_D A (jw_Transcript_settle E q_this q_book q_record q_page q_chord q_lasts q_behinds q_owners q_book_kinds q_book_strokeCounts q_book_strokes q_book_lengths q_book_letters q_chord_letters q_page_bytes q_record_keys q_record_firsts q_record_entries c_size c_raws c_settled c_book_size c_chord_size c_page_size c_page_shift c_page_link c_page_lastWordLength c_page_lastWordVowels c_record_size c_record_readSoFar_12 a_behinds a_book_kinds a_book_lengths a_book_letters a_book_strokeCounts a_book_strokes a_chord_letters a_lasts a_owners a_page_bytes a_record_entries_12 a_record_firsts_12 a_record_keys) := hD
    refine lv_aload_n hx hb dX9_settle_15 rfl (lv_at hl 0 rfl) ?_
    obtain ⟨⟨c_size_16, a_lasts_16, a_owners_16⟩, hf16, h⟩ := jbd h
    refine j_callVv (own := RX9) (As := []) (rest := []) hx hb hml hown hts hK hA hP hD hS (jc_Transcript_findLasts l E q_this q_book q_record q_page q_chord q_lasts q_behinds q_owners q_record_keys q_record_firsts q_record_entries c_size c_raws c_settled c_record_size c_record_readSoFar_12 a_lasts a_owners a_record_firsts_12 N hf16) gX9_settle_X9_findLasts rfl ⟨rfl, rfl⟩ 0 (by decide +kernel) rfl rfl 0 9 rfl rfl [0, 4, 12, 13, 16] [1, 2, 3, 5, 6, 7, 8, 9, 10, 11, 14, 15, 17] [13, 0, 1, 2, 14, 3, 4, 5, 6, 7, 8, 9, 15, 16, 10, 11, 17, 12] rfl rfl rfl rfl rfl rfl rfl hl.1 rfl rfl dX9_settle_16 (fun H locs hP hD hS => ?_)
    replace hP : va_P E.1 vwCl (jw_Transcript_settle E q_this q_book q_record q_page q_chord q_lasts q_behinds q_owners q_book_kinds q_book_strokeCounts q_book_strokes q_book_lengths q_book_letters q_chord_letters q_page_bytes q_record_keys q_record_firsts q_record_entries c_size_16 c_raws c_settled c_book_size c_chord_size c_page_size c_page_shift c_page_link c_page_lastWordLength c_page_lastWordVowels c_record_size c_record_readSoFar_12 a_behinds a_book_kinds a_book_lengths a_book_letters a_book_strokeCounts a_book_strokes a_chord_letters a_lasts_16 a_owners_16 a_page_bytes a_record_entries_12 a_record_firsts_12 a_record_keys) H := hP
    replace hD : va_D A (jw_Transcript_settle E q_this q_book q_record q_page q_chord q_lasts q_behinds q_owners q_book_kinds q_book_strokeCounts q_book_strokes q_book_lengths q_book_letters q_chord_letters q_page_bytes q_record_keys q_record_firsts q_record_entries c_size_16 c_raws c_settled c_book_size c_chord_size c_page_size c_page_shift c_page_link c_page_lastWordLength c_page_lastWordVowels c_record_size c_record_readSoFar_12 a_behinds a_book_kinds a_book_lengths a_book_letters a_book_strokeCounts a_book_strokes a_chord_letters a_lasts_16 a_owners_16 a_page_bytes a_record_entries_12 a_record_firsts_12 a_record_keys) := hD
    refine lv_aload_n hx hb dX9_settle_19 rfl (lv_at hl 0 rfl) ?_
    refine va_get (D := E.1) (ci := 9) (v := .ref q_page) (C := RX9) (T := TX9) (N := 10) hx hb hts hin9 hown hK.1 hP 0 rfl rfl 2 (by decide) hk_36 (fun _ h9 => h9) rfl dX9_settle_20 ?_
    obtain ⟨⟨c_page_size_23, c_page_shift_23, c_page_link_23⟩, hf23, h⟩ := jbd h
    refine j_callVv (own := RX9) (As := []) (rest := []) hx hb hml hown hts hK hA hP hD hS (jc_Page_empty l E q_page q_book q_page_bytes c_page_size c_page_shift c_page_link c_page_lastWordLength c_page_lastWordVowels N hf23) gX9_settle_X4_empty rfl ⟨rfl, rfl⟩ 0 (by decide +kernel) rfl rfl 3 4 rfl rfl [3] [0, 1, 2, 4, 5, 6, 7, 8, 9, 10, 11, 12, 13, 14, 15, 16, 17] [0, 1, 2, 17, 3, 4, 5, 6, 7, 8, 9, 10, 11, 12, 13, 14, 15, 16] rfl rfl rfl rfl rfl rfl rfl hl.1 rfl rfl dX9_settle_23 (fun H locs hP hD hS => ?_)
    replace hP : va_P E.1 vwCl (jw_Transcript_settle E q_this q_book q_record q_page q_chord q_lasts q_behinds q_owners q_book_kinds q_book_strokeCounts q_book_strokes q_book_lengths q_book_letters q_chord_letters q_page_bytes q_record_keys q_record_firsts q_record_entries c_size_16 c_raws c_settled c_book_size c_chord_size c_page_size_23 c_page_shift_23 c_page_link_23 c_page_lastWordLength c_page_lastWordVowels c_record_size c_record_readSoFar_12 a_behinds a_book_kinds a_book_lengths a_book_letters a_book_strokeCounts a_book_strokes a_chord_letters a_lasts_16 a_owners_16 a_page_bytes a_record_entries_12 a_record_firsts_12 a_record_keys) H := hP
    replace hD : va_D A (jw_Transcript_settle E q_this q_book q_record q_page q_chord q_lasts q_behinds q_owners q_book_kinds q_book_strokeCounts q_book_strokes q_book_lengths q_book_letters q_chord_letters q_page_bytes q_record_keys q_record_firsts q_record_entries c_size_16 c_raws c_settled c_book_size c_chord_size c_page_size_23 c_page_shift_23 c_page_link_23 c_page_lastWordLength c_page_lastWordVowels c_record_size c_record_readSoFar_12 a_behinds a_book_kinds a_book_lengths a_book_letters a_book_strokeCounts a_book_strokes a_chord_letters a_lasts_16 a_owners_16 a_page_bytes a_record_entries_12 a_record_firsts_12 a_record_keys) := hD
    refine lv_aload_n hx hb dX9_settle_26 rfl (lv_at hl 0 rfl) ?_
    refine lv_iconst (v := 0) hx hb dX9_settle_27 (by decide) ?_
    refine va_put (D := E.1) (ci := 9) (v := .int 0) (ty := .int) (C := RX9) (T := TX9) (N := 10) hx hb hts hin9 tyX9 tyX9_ok nmX9 hown hK.1 hP hD hS 0 rfl rfl 8 (by decide) hk_57 (fun _ h9 => h9) rfl (by decide +kernel) rfl rfl (Nat.le_of_ble_eq_true rfl) dX9_settle_28 (fun H locs hP hD hS => ?_)
    replace hP : va_P E.1 vwCl (jw_Transcript_settle E q_this q_book q_record q_page q_chord q_lasts q_behinds q_owners q_book_kinds q_book_strokeCounts q_book_strokes q_book_lengths q_book_letters q_chord_letters q_page_bytes q_record_keys q_record_firsts q_record_entries c_size_16 0 c_settled c_book_size c_chord_size c_page_size_23 c_page_shift_23 c_page_link_23 c_page_lastWordLength c_page_lastWordVowels c_record_size c_record_readSoFar_12 a_behinds a_book_kinds a_book_lengths a_book_letters a_book_strokeCounts a_book_strokes a_chord_letters a_lasts_16 a_owners_16 a_page_bytes a_record_entries_12 a_record_firsts_12 a_record_keys) H := hP
    replace hD : va_D A (jw_Transcript_settle E q_this q_book q_record q_page q_chord q_lasts q_behinds q_owners q_book_kinds q_book_strokeCounts q_book_strokes q_book_lengths q_book_letters q_chord_letters q_page_bytes q_record_keys q_record_firsts q_record_entries c_size_16 0 c_settled c_book_size c_chord_size c_page_size_23 c_page_shift_23 c_page_link_23 c_page_lastWordLength c_page_lastWordVowels c_record_size c_record_readSoFar_12 a_behinds a_book_kinds a_book_lengths a_book_letters a_book_strokeCounts a_book_strokes a_chord_letters a_lasts_16 a_owners_16 a_page_bytes a_record_entries_12 a_record_firsts_12 a_record_keys) := hD
    refine lv_iconst (v := 0) hx hb dX9_settle_31 (by decide) ?_
    refine lv_istore_n (lv' := [(1, .int 0), (0, .ref q_this)]) hx hb dX9_settle_32 rfl hl (by decide) rfl (fun ls hl => ?_)
    exact kb33  N 0 c_size_16 0 c_settled c_chord_size c_page_size_23 c_page_shift_23 c_page_link_23 c_page_lastWordLength c_page_lastWordVowels c_record_readSoFar_12 a_behinds a_chord_letters a_lasts_16 a_owners_16 a_page_bytes a_record_entries_12 a_record_firsts_12 _ _ _ h hP hD hS (lv_sub hl [1, 0] rfl)
  · replace h := jif_f hq4 h
    exact j_vret (u := (c_size, c_raws, c_settled, c_chord_size, c_page_size, c_page_shift, c_page_link, c_page_lastWordLength, c_page_lastWordVowels, c_record_readSoFar, a_behinds, a_chord_letters, a_lasts, a_owners, a_page_bytes, a_record_entries, a_record_firsts)) (wv := (fun T => (jw_Transcript_settle E q_this q_book q_record q_page q_chord q_lasts q_behinds q_owners q_book_kinds q_book_strokeCounts q_book_strokes q_book_lengths q_book_letters q_chord_letters q_page_bytes q_record_keys q_record_firsts q_record_entries T.1 T.2.1 T.2.2.1 c_book_size T.2.2.2.1 T.2.2.2.2.1 T.2.2.2.2.2.1 T.2.2.2.2.2.2.1 T.2.2.2.2.2.2.2.1 T.2.2.2.2.2.2.2.2.1 c_record_size T.2.2.2.2.2.2.2.2.2.1 T.2.2.2.2.2.2.2.2.2.2.1 a_book_kinds a_book_lengths a_book_letters a_book_strokeCounts a_book_strokes T.2.2.2.2.2.2.2.2.2.2.2.1 T.2.2.2.2.2.2.2.2.2.2.2.2.1 T.2.2.2.2.2.2.2.2.2.2.2.2.2.1 T.2.2.2.2.2.2.2.2.2.2.2.2.2.2.1 T.2.2.2.2.2.2.2.2.2.2.2.2.2.2.2.1 T.2.2.2.2.2.2.2.2.2.2.2.2.2.2.2.2 a_record_keys))) h hQ hx hb hr hlocks hS hP hD dX9_settle_7
abbrev jw_Planner_plannedStrokes (E : jE) (q_this q_book q_prefixed q_glued q_joined q_trial q_words q_draft q_latest : Nat) (c_length : Int32) (c_drafted : Int32) (c_latestEntries : Int32) (c_latestStrokes : Int32) (c_latestClear : Int32) : va_W := [(q_this, .inr (5, [.ref q_book, .ref q_prefixed, .ref q_glued, .ref q_joined, .ref q_trial, .ref q_words, .int c_length, .ref q_draft, .int c_drafted, .ref q_latest, .int c_latestEntries, .int c_latestStrokes, .int c_latestClear]))]
def jr_Planner_plannedStrokes : Room := { frames := 0, cells := 0, slots := 0, locals := 0 }
set_option maxHeartbeats 4000000 in
set_option maxRecDepth 100000 in
theorem jc_Planner_plannedStrokes (l : Launch) (E : jE) (q_this q_book q_prefixed q_glued q_joined q_trial q_words q_draft q_latest : Nat) (c_length : Int32) (c_drafted : Int32) (c_latestEntries : Int32) (c_latestStrokes : Int32) (c_latestClear : Int32) (N : Nat) {T : Int32} (h : jf_Planner_plannedStrokes c_latestStrokes = some T) : jMi l yX5_plannedStrokes wsX5_plannedStrokes jr_Planner_plannedStrokes E [.ref q_this] (jw_Planner_plannedStrokes E q_this q_book q_prefixed q_glued q_joined q_trial q_words q_draft q_latest c_length c_drafted c_latestEntries c_latestStrokes c_latestClear) (T) (jw_Planner_plannedStrokes E q_this q_book q_prefixed q_glued q_joined q_trial q_words q_draft q_latest c_length c_drafted c_latestEntries c_latestStrokes c_latestClear) := by
  refine jMi.begin (cc := cX5_plannedStrokes) (maxL := 1) (ret := (some .int)) (by decide) rfl (Nat.le_of_ble_eq_true rfl) ?_
  intro p e s m args below meth c A ls Q hQ hx hb hr hml hown hlocks hts hK hA hP hD hS hl
  replace hown : s.vm.findClass RX5 = some m.cls := hown
  replace hl : lv_has ls 1 [(0, .ref q_this)] := hl
  have hin5 : ∀ w ∈ u_ws RX5 TX5 13, w ∈ wsX5_plannedStrokes := by decide +kernel
  have hk_61 := hts (.fieldLink RX5 61 "StenoRoom$Planner" "latestStrokes" "I") (by decide +kernel)
  unfold jf_Planner_plannedStrokes at h
  refine lv_aload_n hx hb dX5_plannedStrokes_0 rfl (lv_at hl 0 rfl) ?_
  refine va_get (D := E.1) (ci := 5) (v := .int c_latestStrokes) (C := RX5) (T := TX5) (N := 13) hx hb hts hin5 hown hK.1 hP 0 rfl rfl 11 (by decide) hk_61 (fun _ h9 => h9) rfl dX5_plannedStrokes_1 ?_
  exact j_iret (u := c_latestStrokes) (rv := (fun T => T)) (wv := (fun _ => (jw_Planner_plannedStrokes E q_this q_book q_prefixed q_glued q_joined q_trial q_words q_draft q_latest c_length c_drafted c_latestEntries c_latestStrokes c_latestClear))) h hQ hx hb hr rfl hlocks hS hP hD dX5_plannedStrokes_4
abbrev jw_Planner_plannedEntries (E : jE) (q_this q_book q_prefixed q_glued q_joined q_trial q_words q_draft q_latest : Nat) (c_length : Int32) (c_drafted : Int32) (c_latestEntries : Int32) (c_latestStrokes : Int32) (c_latestClear : Int32) : va_W := [(q_this, .inr (5, [.ref q_book, .ref q_prefixed, .ref q_glued, .ref q_joined, .ref q_trial, .ref q_words, .int c_length, .ref q_draft, .int c_drafted, .ref q_latest, .int c_latestEntries, .int c_latestStrokes, .int c_latestClear]))]
def jr_Planner_plannedEntries : Room := { frames := 0, cells := 0, slots := 0, locals := 0 }
set_option maxHeartbeats 4000000 in
set_option maxRecDepth 100000 in
theorem jc_Planner_plannedEntries (l : Launch) (E : jE) (q_this q_book q_prefixed q_glued q_joined q_trial q_words q_draft q_latest : Nat) (c_length : Int32) (c_drafted : Int32) (c_latestEntries : Int32) (c_latestStrokes : Int32) (c_latestClear : Int32) (N : Nat) {T : Int32} (h : jf_Planner_plannedEntries c_latestEntries = some T) : jMi l yX5_plannedEntries wsX5_plannedEntries jr_Planner_plannedEntries E [.ref q_this] (jw_Planner_plannedEntries E q_this q_book q_prefixed q_glued q_joined q_trial q_words q_draft q_latest c_length c_drafted c_latestEntries c_latestStrokes c_latestClear) (T) (jw_Planner_plannedEntries E q_this q_book q_prefixed q_glued q_joined q_trial q_words q_draft q_latest c_length c_drafted c_latestEntries c_latestStrokes c_latestClear) := by
  refine jMi.begin (cc := cX5_plannedEntries) (maxL := 1) (ret := (some .int)) (by decide) rfl (Nat.le_of_ble_eq_true rfl) ?_
  intro p e s m args below meth c A ls Q hQ hx hb hr hml hown hlocks hts hK hA hP hD hS hl
  replace hown : s.vm.findClass RX5 = some m.cls := hown
  replace hl : lv_has ls 1 [(0, .ref q_this)] := hl
  have hin5 : ∀ w ∈ u_ws RX5 TX5 13, w ∈ wsX5_plannedEntries := by decide +kernel
  have hk_58 := hts (.fieldLink RX5 58 "StenoRoom$Planner" "latestEntries" "I") (by decide +kernel)
  unfold jf_Planner_plannedEntries at h
  refine lv_aload_n hx hb dX5_plannedEntries_0 rfl (lv_at hl 0 rfl) ?_
  refine va_get (D := E.1) (ci := 5) (v := .int c_latestEntries) (C := RX5) (T := TX5) (N := 13) hx hb hts hin5 hown hK.1 hP 0 rfl rfl 10 (by decide) hk_58 (fun _ h9 => h9) rfl dX5_plannedEntries_1 ?_
  exact j_iret (u := c_latestEntries) (rv := (fun T => T)) (wv := (fun _ => (jw_Planner_plannedEntries E q_this q_book q_prefixed q_glued q_joined q_trial q_words q_draft q_latest c_length c_drafted c_latestEntries c_latestStrokes c_latestClear))) h hQ hx hb hr rfl hlocks hS hP hD dX5_plannedEntries_4
abbrev jw_Page_link (E : jE) (q_this q_book q_bytes : Nat) (c_size : Int32) (c_shift : Int32) (c_link : Int32) (c_lastWordLength : Int32) (c_lastWordVowels : Int32) : va_W := [(q_this, .inr (4, [.ref q_book, .ref q_bytes, .int c_size, .int c_shift, .int c_link, .int c_lastWordLength, .int c_lastWordVowels]))]
def jr_Page_link : Room := { frames := 0, cells := 0, slots := 0, locals := 0 }
set_option maxHeartbeats 4000000 in
set_option maxRecDepth 100000 in
theorem jc_Page_link (l : Launch) (E : jE) (q_this q_book q_bytes : Nat) (c_size : Int32) (c_shift : Int32) (c_link : Int32) (c_lastWordLength : Int32) (c_lastWordVowels : Int32) (N : Nat) {T : Int32} (h : jf_Page_link c_link = some T) : jMi l yX4_link wsX4_link jr_Page_link E [.ref q_this] (jw_Page_link E q_this q_book q_bytes c_size c_shift c_link c_lastWordLength c_lastWordVowels) (T) (jw_Page_link E q_this q_book q_bytes c_size c_shift c_link c_lastWordLength c_lastWordVowels) := by
  refine jMi.begin (cc := cX4_link) (maxL := 1) (ret := (some .int)) (by decide) rfl (Nat.le_of_ble_eq_true rfl) ?_
  intro p e s m args below meth c A ls Q hQ hx hb hr hml hown hlocks hts hK hA hP hD hS hl
  replace hown : s.vm.findClass RX4 = some m.cls := hown
  replace hl : lv_has ls 1 [(0, .ref q_this)] := hl
  have hin4 : ∀ w ∈ u_ws RX4 TX4 7, w ∈ wsX4_link := by decide +kernel
  have hk_32 := hts (.fieldLink RX4 32 "StenoRoom$Page" "link" "I") (by decide +kernel)
  unfold jf_Page_link at h
  refine lv_aload_n hx hb dX4_link_0 rfl (lv_at hl 0 rfl) ?_
  refine va_get (D := E.1) (ci := 4) (v := .int c_link) (C := RX4) (T := TX4) (N := 7) hx hb hts hin4 hown hK.1 hP 0 rfl rfl 4 (by decide) hk_32 (fun _ h9 => h9) rfl dX4_link_1 ?_
  exact j_iret (u := c_link) (rv := (fun T => T)) (wv := (fun _ => (jw_Page_link E q_this q_book q_bytes c_size c_shift c_link c_lastWordLength c_lastWordVowels))) h hQ hx hb hr rfl hlocks hS hP hD dX4_link_4
abbrev jw_Page_shift (E : jE) (q_this q_book q_bytes : Nat) (c_size : Int32) (c_shift : Int32) (c_link : Int32) (c_lastWordLength : Int32) (c_lastWordVowels : Int32) : va_W := [(q_this, .inr (4, [.ref q_book, .ref q_bytes, .int c_size, .int c_shift, .int c_link, .int c_lastWordLength, .int c_lastWordVowels]))]
def jr_Page_shift : Room := { frames := 0, cells := 0, slots := 0, locals := 0 }
set_option maxHeartbeats 4000000 in
set_option maxRecDepth 100000 in
theorem jc_Page_shift (l : Launch) (E : jE) (q_this q_book q_bytes : Nat) (c_size : Int32) (c_shift : Int32) (c_link : Int32) (c_lastWordLength : Int32) (c_lastWordVowels : Int32) (N : Nat) {T : Int32} (h : jf_Page_shift c_shift = some T) : jMi l yX4_shift wsX4_shift jr_Page_shift E [.ref q_this] (jw_Page_shift E q_this q_book q_bytes c_size c_shift c_link c_lastWordLength c_lastWordVowels) (T) (jw_Page_shift E q_this q_book q_bytes c_size c_shift c_link c_lastWordLength c_lastWordVowels) := by
  refine jMi.begin (cc := cX4_shift) (maxL := 1) (ret := (some .int)) (by decide) rfl (Nat.le_of_ble_eq_true rfl) ?_
  intro p e s m args below meth c A ls Q hQ hx hb hr hml hown hlocks hts hK hA hP hD hS hl
  replace hown : s.vm.findClass RX4 = some m.cls := hown
  replace hl : lv_has ls 1 [(0, .ref q_this)] := hl
  have hin4 : ∀ w ∈ u_ws RX4 TX4 7, w ∈ wsX4_shift := by decide +kernel
  have hk_29 := hts (.fieldLink RX4 29 "StenoRoom$Page" "shift" "I") (by decide +kernel)
  unfold jf_Page_shift at h
  refine lv_aload_n hx hb dX4_shift_0 rfl (lv_at hl 0 rfl) ?_
  refine va_get (D := E.1) (ci := 4) (v := .int c_shift) (C := RX4) (T := TX4) (N := 7) hx hb hts hin4 hown hK.1 hP 0 rfl rfl 3 (by decide) hk_29 (fun _ h9 => h9) rfl dX4_shift_1 ?_
  exact j_iret (u := c_shift) (rv := (fun T => T)) (wv := (fun _ => (jw_Page_shift E q_this q_book q_bytes c_size c_shift c_link c_lastWordLength c_lastWordVowels))) h hQ hx hb hr rfl hlocks hS hP hD dX4_shift_4
abbrev jw_Transcript_raws (E : jE) (q_this q_book q_record q_page q_chord q_lasts q_behinds q_owners : Nat) (c_size : Int32) (c_raws : Int32) (c_settled : Int32) : va_W := [(q_this, .inr (9, [.ref q_book, .ref q_record, .ref q_page, .ref q_chord, .ref q_lasts, .ref q_behinds, .ref q_owners, .int c_size, .int c_raws, .int c_settled]))]
def jr_Transcript_raws : Room := { frames := 0, cells := 0, slots := 0, locals := 0 }
set_option maxHeartbeats 4000000 in
set_option maxRecDepth 100000 in
theorem jc_Transcript_raws (l : Launch) (E : jE) (q_this q_book q_record q_page q_chord q_lasts q_behinds q_owners : Nat) (c_size : Int32) (c_raws : Int32) (c_settled : Int32) (N : Nat) {T : Int32} (h : jf_Transcript_raws c_raws = some T) : jMi l yX9_raws wsX9_raws jr_Transcript_raws E [.ref q_this] (jw_Transcript_raws E q_this q_book q_record q_page q_chord q_lasts q_behinds q_owners c_size c_raws c_settled) (T) (jw_Transcript_raws E q_this q_book q_record q_page q_chord q_lasts q_behinds q_owners c_size c_raws c_settled) := by
  refine jMi.begin (cc := cX9_raws) (maxL := 1) (ret := (some .int)) (by decide) rfl (Nat.le_of_ble_eq_true rfl) ?_
  intro p e s m args below meth c A ls Q hQ hx hb hr hml hown hlocks hts hK hA hP hD hS hl
  replace hown : s.vm.findClass RX9 = some m.cls := hown
  replace hl : lv_has ls 1 [(0, .ref q_this)] := hl
  have hin9 : ∀ w ∈ u_ws RX9 TX9 10, w ∈ wsX9_raws := by decide +kernel
  have hk_57 := hts (.fieldLink RX9 57 "StenoRoom$Transcript" "raws" "I") (by decide +kernel)
  unfold jf_Transcript_raws at h
  refine lv_aload_n hx hb dX9_raws_0 rfl (lv_at hl 0 rfl) ?_
  refine va_get (D := E.1) (ci := 9) (v := .int c_raws) (C := RX9) (T := TX9) (N := 10) hx hb hts hin9 hown hK.1 hP 0 rfl rfl 8 (by decide) hk_57 (fun _ h9 => h9) rfl dX9_raws_1 ?_
  exact j_iret (u := c_raws) (rv := (fun T => T)) (wv := (fun _ => (jw_Transcript_raws E q_this q_book q_record q_page q_chord q_lasts q_behinds q_owners c_size c_raws c_settled))) h hQ hx hb hr rfl hlocks hS hP hD dX9_raws_4
abbrev jw_Transcript_size (E : jE) (q_this q_book q_record q_page q_chord q_lasts q_behinds q_owners : Nat) (c_size : Int32) (c_raws : Int32) (c_settled : Int32) : va_W := [(q_this, .inr (9, [.ref q_book, .ref q_record, .ref q_page, .ref q_chord, .ref q_lasts, .ref q_behinds, .ref q_owners, .int c_size, .int c_raws, .int c_settled]))]
def jr_Transcript_size : Room := { frames := 0, cells := 0, slots := 0, locals := 0 }
set_option maxHeartbeats 4000000 in
set_option maxRecDepth 100000 in
theorem jc_Transcript_size (l : Launch) (E : jE) (q_this q_book q_record q_page q_chord q_lasts q_behinds q_owners : Nat) (c_size : Int32) (c_raws : Int32) (c_settled : Int32) (N : Nat) {T : Int32} (h : jf_Transcript_size c_size = some T) : jMi l yX9_size wsX9_size jr_Transcript_size E [.ref q_this] (jw_Transcript_size E q_this q_book q_record q_page q_chord q_lasts q_behinds q_owners c_size c_raws c_settled) (T) (jw_Transcript_size E q_this q_book q_record q_page q_chord q_lasts q_behinds q_owners c_size c_raws c_settled) := by
  refine jMi.begin (cc := cX9_size) (maxL := 1) (ret := (some .int)) (by decide) rfl (Nat.le_of_ble_eq_true rfl) ?_
  intro p e s m args below meth c A ls Q hQ hx hb hr hml hown hlocks hts hK hA hP hD hS hl
  replace hown : s.vm.findClass RX9 = some m.cls := hown
  replace hl : lv_has ls 1 [(0, .ref q_this)] := hl
  have hin9 : ∀ w ∈ u_ws RX9 TX9 10, w ∈ wsX9_size := by decide +kernel
  have hk_61 := hts (.fieldLink RX9 61 "StenoRoom$Transcript" "size" "I") (by decide +kernel)
  unfold jf_Transcript_size at h
  refine lv_aload_n hx hb dX9_size_0 rfl (lv_at hl 0 rfl) ?_
  refine va_get (D := E.1) (ci := 9) (v := .int c_size) (C := RX9) (T := TX9) (N := 10) hx hb hts hin9 hown hK.1 hP 0 rfl rfl 7 (by decide) hk_61 (fun _ h9 => h9) rfl dX9_size_1 ?_
  exact j_iret (u := c_size) (rv := (fun T => T)) (wv := (fun _ => (jw_Transcript_size E q_this q_book q_record q_page q_chord q_lasts q_behinds q_owners c_size c_raws c_settled))) h hQ hx hb hr rfl hlocks hS hP hD dX9_size_4
