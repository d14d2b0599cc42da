abbrev jw_Page_writeText (E : jE) (q_this q_book q_bytes q_book_kinds q_book_strokeCounts q_book_strokes q_book_lengths q_book_letters : Nat) (n_bytes : Nat) (c_size : Int32) (c_shift : Int32) (c_link : Int32) (c_lastWordLength : Int32) (c_lastWordVowels : Int32) (c_book_size : Int32) (a_book_lengths : (Nat → Int32)) (a_book_letters : (Nat → Int32)) (a_bytes : (Nat → Int32)) : va_W := [(q_this, .inr (4, [.ref q_book, .ref q_bytes, .int c_size, .int c_shift, .int c_link, .int c_lastWordLength, .int c_lastWordVowels])), (q_book, .inr (0, [.ref q_book_kinds, .ref q_book_strokeCounts, .ref q_book_strokes, .ref q_book_lengths, .ref q_book_letters, .int c_book_size])), (q_book_lengths, .inl (E.2.2.1, 60, .inl a_book_lengths)), (q_book_letters, .inl (E.2.1, 960, .inl a_book_letters)), (q_bytes, .inl (E.2.1, n_bytes, .inl a_bytes))]
def jr_Page_writeText : Room := { frames := 2, cells := 0, slots := 0, locals := 41 }
set_option maxHeartbeats 4000000 in
set_option maxRecDepth 100000 in
theorem jc_Page_writeText (l : Launch) (E : jE) (q_this q_book q_bytes q_book_kinds q_book_strokeCounts q_book_strokes q_book_lengths q_book_letters : Nat) (n_bytes : Nat) (c_size : Int32) (c_shift : Int32) (c_link : Int32) (c_lastWordLength : Int32) (c_lastWordVowels : Int32) (c_book_size : Int32) (a_book_lengths : (Nat → Int32)) (a_book_letters : (Nat → Int32)) (a_bytes : (Nat → Int32)) (x1 : Int32) (N : Nat) {T : Int32 × Int32 × Int32 × (Nat → Int32)} (h : jf_Page_writeText N x1 n_bytes c_book_size a_book_lengths a_book_letters c_size c_shift c_link a_bytes = some T) : jMv l yX4_writeText wsX4_writeText jr_Page_writeText E [.ref q_this, .int x1] (jw_Page_writeText E q_this q_book q_bytes q_book_kinds q_book_strokeCounts q_book_strokes q_book_lengths q_book_letters n_bytes c_size c_shift c_link c_lastWordLength c_lastWordVowels c_book_size a_book_lengths a_book_letters a_bytes) (jw_Page_writeText E q_this q_book q_bytes q_book_kinds q_book_strokeCounts q_book_strokes q_book_lengths q_book_letters n_bytes T.1 T.2.1 T.2.2.1 c_lastWordLength c_lastWordVowels c_book_size a_book_lengths a_book_letters T.2.2.2) := by
  refine jMv.begin (cc := cX4_writeText) (maxL := 5) (ret := none) (by decide) rfl (Nat.le_of_ble_eq_true rfl) ?_
  intro p e s m args below meth c A ls Q hQ hx hb hr hml hown hlocks hts hK hA hP hD hS hl
  replace hown : s.vm.findClass RX4 = some m.cls := hown
  replace hl : lv_has ls 5 [(0, .ref q_this), (1, .int x1)] := hl
  have hin4 : ∀ w ∈ u_ws RX4 TX4 7, w ∈ wsX4_writeText := by decide +kernel
  have hk_9 := hts (.fieldLink RX4 9 "StenoRoom$Page" "book" "LStenoRoom$Book;") (by decide +kernel)
  have hk_29 := hts (.fieldLink RX4 29 "StenoRoom$Page" "shift" "I") (by decide +kernel)
  have kb88 : ∀ (c_size : Int32) (c_shift : Int32) (c_link : Int32) (a_bytes : (Nat → Int32)) (H : Heap) (locs : List Loc) (ls : Array Slot), jf_Page_writeText_b88 c_size c_shift c_link a_bytes = some T → va_P E.1 vwCl (jw_Page_writeText E q_this q_book q_bytes q_book_kinds q_book_strokeCounts q_book_strokes q_book_lengths q_book_letters n_bytes c_size c_shift c_link c_lastWordLength c_lastWordVowels c_book_size a_book_lengths a_book_letters a_bytes) H → va_D A (jw_Page_writeText E q_this q_book q_bytes q_book_kinds q_book_strokeCounts q_book_strokes q_book_lengths q_book_letters n_bytes c_size c_shift c_link c_lastWordLength c_lastWordVowels c_book_size a_book_lengths a_book_letters a_bytes) → va_S A s.heap H locs → lv_has ls 5 [(0, .ref q_this)] → W p l e jr_Page_writeText s m args below meth c H locs 0 0 Q (F0 m 88 ls []) := by
    intro  c_size c_shift c_link a_bytes H locs ls h hP hD hS hl
    unfold jf_Page_writeText_b88 at h
    refine lv_aload_n hx hb dX4_writeText_88 rfl (lv_at hl 0 rfl) ?_
    refine lv_iconst (v := 0) hx hb dX4_writeText_89 (by decide) ?_
    refine va_put (D := E.1) (ci := 4) (v := .int 0) (ty := .int) (C := RX4) (T := TX4) (N := 7) hx hb hts hin4 tyX4 tyX4_ok nmX4 hown hK.1 hP hD hS 0 rfl rfl 3 (by decide) hk_29 (fun _ h9 => h9) rfl (by decide +kernel) rfl rfl (Nat.le_of_ble_eq_true rfl) dX4_writeText_90 (fun H locs hP hD hS => ?_)
    replace hP : va_P E.1 vwCl (jw_Page_writeText E q_this q_book q_bytes q_book_kinds q_book_strokeCounts q_book_strokes q_book_lengths q_book_letters n_bytes c_size 0 c_link c_lastWordLength c_lastWordVowels c_book_size a_book_lengths a_book_letters a_bytes) H := hP
    replace hD : va_D A (jw_Page_writeText E q_this q_book q_bytes q_book_kinds q_book_strokeCounts q_book_strokes q_book_lengths q_book_letters n_bytes c_size 0 c_link c_lastWordLength c_lastWordVowels c_book_size a_book_lengths a_book_letters a_bytes) := hD
    exact j_vret (u := (c_size, 0, c_link, a_bytes)) (wv := (fun T => (jw_Page_writeText E q_this q_book q_bytes q_book_kinds q_book_strokeCounts q_book_strokes q_book_lengths q_book_letters n_bytes T.1 T.2.1 T.2.2.1 c_lastWordLength c_lastWordVowels c_book_size a_book_lengths a_book_letters T.2.2.2))) h hQ hx hb hr hlocks hS hP hD dX4_writeText_93
  have kb79 : ∀ (k6 : Int32 → Int32 → Int32 → Int32 → (Nat → Int32) → Option (Int32 × Int32 × Int32 × (Nat → Int32))) (hk6 : ∀ (x2 : Int32) (c_size : Int32) (c_shift : Int32) (c_link : Int32) (a_bytes : (Nat → Int32)) (H : Heap) (locs : List Loc) (ls : Array Slot), k6 x2 c_size c_shift c_link a_bytes = some T → va_P E.1 vwCl (jw_Page_writeText E q_this q_book q_bytes q_book_kinds q_book_strokeCounts q_book_strokes q_book_lengths q_book_letters n_bytes c_size c_shift c_link c_lastWordLength c_lastWordVowels c_book_size a_book_lengths a_book_letters a_bytes) H → va_D A (jw_Page_writeText E q_this q_book q_bytes q_book_kinds q_book_strokeCounts q_book_strokes q_book_lengths q_book_letters n_bytes c_size c_shift c_link c_lastWordLength c_lastWordVowels c_book_size a_book_lengths a_book_letters a_bytes) → va_S A s.heap H locs → lv_has ls 5 [(0, .ref q_this), (1, .int x1), (2, .int x2)] → W p l e jr_Page_writeText s m args below meth c H locs 0 0 Q (F0 m 6 ls [])) (x2 : Int32) (z1 : Int32) (c_size : Int32) (c_shift : Int32) (c_link : Int32) (a_bytes : (Nat → Int32)) (H : Heap) (locs : List Loc) (ls : Array Slot), jf_Page_writeText_b79 n_bytes k6 x2 z1 c_size c_shift c_link a_bytes = some T → va_P E.1 vwCl (jw_Page_writeText E q_this q_book q_bytes q_book_kinds q_book_strokeCounts q_book_strokes q_book_lengths q_book_letters n_bytes c_size c_shift c_link c_lastWordLength c_lastWordVowels c_book_size a_book_lengths a_book_letters a_bytes) H → va_D A (jw_Page_writeText E q_this q_book q_bytes q_book_kinds q_book_strokeCounts q_book_strokes q_book_lengths q_book_letters n_bytes c_size c_shift c_link c_lastWordLength c_lastWordVowels c_book_size a_book_lengths a_book_letters a_bytes) → va_S A s.heap H locs → lv_has ls 5 [(0, .ref q_this), (1, .int x1), (2, .int x2)] → W p l e jr_Page_writeText s m args below meth c H locs 0 0 Q (F0 m 79 ls [.int z1, .ref q_this]) := by
    intro k6 hk6 x2 z1 c_size c_shift c_link a_bytes H locs ls h hP hD hS hl
    unfold jf_Page_writeText_b79 at h
    obtain ⟨⟨c_size_79, a_bytes_79⟩, hf79, h⟩ := jbd h
    refine j_callVv (own := RX4) (As := [.int z1]) (rest := []) hx hb hml hown hts hK hA hP hD hS (jc_Page_put l E q_this q_book q_bytes n_bytes c_size c_shift c_link c_lastWordLength c_lastWordVowels a_bytes z1 N hf79) gX4_writeText_X4_put rfl ⟨rfl, rfl⟩ 1 (by decide +kernel) rfl rfl 0 4 rfl rfl [0, 4] [1, 2, 3] [3, 0, 1, 2, 4] rfl rfl rfl rfl rfl rfl rfl hl.1 rfl rfl dX4_writeText_79 (fun H locs hP hD hS => ?_)
    replace hP : va_P E.1 vwCl (jw_Page_writeText E q_this q_book q_bytes q_book_kinds q_book_strokeCounts q_book_strokes q_book_lengths q_book_letters n_bytes c_size_79 c_shift c_link c_lastWordLength c_lastWordVowels c_book_size a_book_lengths a_book_letters a_bytes_79) H := hP
    replace hD : va_D A (jw_Page_writeText E q_this q_book q_bytes q_book_kinds q_book_strokeCounts q_book_strokes q_book_lengths q_book_letters n_bytes c_size_79 c_shift c_link c_lastWordLength c_lastWordVowels c_book_size a_book_lengths a_book_letters a_bytes_79) := hD
    refine lv_iinc (v := (x2 + 1)) (lv' := [(2, .int (x2 + 1)), (0, .ref q_this), (1, .int x1)]) hx hb dX4_writeText_82 hl (k := 2) rfl rfl (by decide) rfl (fun ls hl => ?_)
    refine lv_goto (tgt := 6) hx hb dX4_writeText_85 (by decide) ?_
    exact hk6 (x2 + 1) c_size_79 c_shift c_link a_bytes_79 _ _ _ h hP hD hS (lv_sub hl [1, 2, 0] rfl)
  have kb78 : ∀ (k6 : Int32 → Int32 → Int32 → Int32 → (Nat → Int32) → Option (Int32 × Int32 × Int32 × (Nat → Int32))) (hk6 : ∀ (x2 : Int32) (c_size : Int32) (c_shift : Int32) (c_link : Int32) (a_bytes : (Nat → Int32)) (H : Heap) (locs : List Loc) (ls : Array Slot), k6 x2 c_size c_shift c_link a_bytes = some T → va_P E.1 vwCl (jw_Page_writeText E q_this q_book q_bytes q_book_kinds q_book_strokeCounts q_book_strokes q_book_lengths q_book_letters n_bytes c_size c_shift c_link c_lastWordLength c_lastWordVowels c_book_size a_book_lengths a_book_letters a_bytes) H → va_D A (jw_Page_writeText E q_this q_book q_bytes q_book_kinds q_book_strokeCounts q_book_strokes q_book_lengths q_book_letters n_bytes c_size c_shift c_link c_lastWordLength c_lastWordVowels c_book_size a_book_lengths a_book_letters a_bytes) → va_S A s.heap H locs → lv_has ls 5 [(0, .ref q_this), (1, .int x1), (2, .int x2)] → W p l e jr_Page_writeText s m args below meth c H locs 0 0 Q (F0 m 6 ls [])) (x2 : Int32) (x3 : Int32) (c_size : Int32) (c_shift : Int32) (c_link : Int32) (a_bytes : (Nat → Int32)) (H : Heap) (locs : List Loc) (ls : Array Slot), jf_Page_writeText_b78 n_bytes k6 x2 x3 c_size c_shift c_link a_bytes = some T → va_P E.1 vwCl (jw_Page_writeText E q_this q_book q_bytes q_book_kinds q_book_strokeCounts q_book_strokes q_book_lengths q_book_letters n_bytes c_size c_shift c_link c_lastWordLength c_lastWordVowels c_book_size a_book_lengths a_book_letters a_bytes) H → va_D A (jw_Page_writeText E q_this q_book q_bytes q_book_kinds q_book_strokeCounts q_book_strokes q_book_lengths q_book_letters n_bytes c_size c_shift c_link c_lastWordLength c_lastWordVowels c_book_size a_book_lengths a_book_letters a_bytes) → va_S A s.heap H locs → lv_has ls 5 [(0, .ref q_this), (1, .int x1), (2, .int x2), (3, .int x3)] → W p l e jr_Page_writeText s m args below meth c H locs 0 0 Q (F0 m 78 ls [.ref q_this]) := by
    intro k6 hk6 x2 x3 c_size c_shift c_link a_bytes H locs ls h hP hD hS hl
    unfold jf_Page_writeText_b78 at h
    refine lv_iload_n hx hb dX4_writeText_78 rfl (lv_at hl 3 rfl) ?_
    exact kb79 k6 hk6  x2 x3 c_size c_shift c_link a_bytes _ _ _ h hP hD hS (lv_sub hl [0, 1, 2] rfl)
  have kb53 : ∀ (k6 : Int32 → Int32 → Int32 → Int32 → (Nat → Int32) → Option (Int32 × Int32 × Int32 × (Nat → Int32))) (hk6 : ∀ (x2 : Int32) (c_size : Int32) (c_shift : Int32) (c_link : Int32) (a_bytes : (Nat → Int32)) (H : Heap) (locs : List Loc) (ls : Array Slot), k6 x2 c_size c_shift c_link a_bytes = some T → va_P E.1 vwCl (jw_Page_writeText E q_this q_book q_bytes q_book_kinds q_book_strokeCounts q_book_strokes q_book_lengths q_book_letters n_bytes c_size c_shift c_link c_lastWordLength c_lastWordVowels c_book_size a_book_lengths a_book_letters a_bytes) H → va_D A (jw_Page_writeText E q_this q_book q_bytes q_book_kinds q_book_strokeCounts q_book_strokes q_book_lengths q_book_letters n_bytes c_size c_shift c_link c_lastWordLength c_lastWordVowels c_book_size a_book_lengths a_book_letters a_bytes) → va_S A s.heap H locs → lv_has ls 5 [(0, .ref q_this), (1, .int x1), (2, .int x2)] → W p l e jr_Page_writeText s m args below meth c H locs 0 0 Q (F0 m 6 ls [])) (x2 : Int32) (x3 : Int32) (z0 : Int32) (c_size : Int32) (c_shift : Int32) (c_link : Int32) (a_bytes : (Nat → Int32)) (H : Heap) (locs : List Loc) (ls : Array Slot), jf_Page_writeText_b53 n_bytes k6 x2 x3 z0 c_size c_shift c_link a_bytes = some T → va_P E.1 vwCl (jw_Page_writeText E q_this q_book q_bytes q_book_kinds q_book_strokeCounts q_book_strokes q_book_lengths q_book_letters n_bytes c_size c_shift c_link c_lastWordLength c_lastWordVowels c_book_size a_book_lengths a_book_letters a_bytes) H → va_D A (jw_Page_writeText E q_this q_book q_bytes q_book_kinds q_book_strokeCounts q_book_strokes q_book_lengths q_book_letters n_bytes c_size c_shift c_link c_lastWordLength c_lastWordVowels c_book_size a_book_lengths a_book_letters a_bytes) → va_S A s.heap H locs → lv_has ls 5 [(0, .ref q_this), (1, .int x1), (2, .int x2), (3, .int x3)] → W p l e jr_Page_writeText s m args below meth c H locs 0 0 Q (F0 m 53 ls [.int z0]) := by
    intro k6 hk6 x2 x3 z0 c_size c_shift c_link a_bytes H locs ls h hP hD hS hl
    unfold jf_Page_writeText_b53 at h
    refine lv_istore (lv' := [(4, .int z0), (0, .ref q_this), (1, .int x1), (2, .int x2), (3, .int x3)]) hx hb dX4_writeText_53 hl (by decide) rfl (fun ls hl => ?_)
    refine lv_aload_n hx hb dX4_writeText_55 rfl (lv_at hl 1 rfl) ?_
    refine lv_iload hx hb dX4_writeText_56 (lv_at hl 0 rfl) ?_
    refine lv_if_eq (tgt := 78) hx hb dX4_writeText_58 (by decide) (fun hq58 => ?_) (fun hq58 => ?_)
    · replace h := jif_t hq58 h
      exact kb78 k6 hk6  x2 x3 c_size c_shift c_link a_bytes _ _ _ h hP hD hS (lv_sub hl [1, 2, 3, 4] rfl)
    · replace h := jif_f hq58 h
      refine lv_iload_n hx hb dX4_writeText_61 rfl (lv_at hl 4 rfl) ?_
      obtain ⟨r62, hf62, h⟩ := jbd h
      refine j_callNi (own := RX4) (As := [.int x3]) (rest := [.ref q_this]) hx hb hml hown hts hK hA hP hD hS (jc_Room_isSmall l E x3 N hf62) gX4_writeText_X10_isSmall_n75 (by decide +kernel) (by decide +kernel) (by decide +kernel) rfl ⟨rfl, rfl⟩ 1 (by decide +kernel) rfl rfl [] [0, 1, 2, 3, 4] [0, 1, 2, 3, 4] rfl rfl rfl rfl rfl rfl rfl hl.1 rfl rfl dX4_writeText_62 (fun H locs hP hD hS => ?_)
      replace hP : va_P E.1 vwCl (jw_Page_writeText E q_this q_book q_bytes q_book_kinds q_book_strokeCounts q_book_strokes q_book_lengths q_book_letters n_bytes c_size c_shift c_link c_lastWordLength c_lastWordVowels c_book_size a_book_lengths a_book_letters a_bytes) H := hP
      replace hD : va_D A (jw_Page_writeText E q_this q_book q_bytes q_book_kinds q_book_strokeCounts q_book_strokes q_book_lengths q_book_letters n_bytes c_size c_shift c_link c_lastWordLength c_lastWordVowels c_book_size a_book_lengths a_book_letters a_bytes) := hD
      refine lv_if_eq (tgt := 78) hx hb dX4_writeText_65 (by decide) (fun hq65 => ?_) (fun hq65 => ?_)
      · replace h := jif_t hq65 h
        exact kb78 k6 hk6  x2 x3 c_size c_shift c_link a_bytes _ _ _ h hP hD hS (lv_sub hl [1, 2, 3, 4] rfl)
      · replace h := jif_f hq65 h
        refine lv_iload_n hx hb dX4_writeText_68 rfl (lv_at hl 4 rfl) ?_
        refine lv_bipush (v := 97) hx hb dX4_writeText_69 (by decide) ?_
        refine lv_isub hx hb dX4_writeText_71 ?_
        refine lv_bipush (v := 65) hx hb dX4_writeText_72 (by decide) ?_
        refine lv_iadd hx hb dX4_writeText_74 ?_
        refine lv_goto (tgt := 79) hx hb dX4_writeText_75 (by decide) ?_
        exact kb79 k6 hk6  x2 ((x3 - 97) + 65) c_size c_shift c_link a_bytes _ _ _ h hP hD hS (lv_sub hl [1, 2, 3] rfl)
  have kb48 : ∀ (k6 : Int32 → Int32 → Int32 → Int32 → (Nat → Int32) → Option (Int32 × Int32 × Int32 × (Nat → Int32))) (hk6 : ∀ (x2 : Int32) (c_size : Int32) (c_shift : Int32) (c_link : Int32) (a_bytes : (Nat → Int32)) (H : Heap) (locs : List Loc) (ls : Array Slot), k6 x2 c_size c_shift c_link a_bytes = some T → va_P E.1 vwCl (jw_Page_writeText E q_this q_book q_bytes q_book_kinds q_book_strokeCounts q_book_strokes q_book_lengths q_book_letters n_bytes c_size c_shift c_link c_lastWordLength c_lastWordVowels c_book_size a_book_lengths a_book_letters a_bytes) H → va_D A (jw_Page_writeText E q_this q_book q_bytes q_book_kinds q_book_strokeCounts q_book_strokes q_book_lengths q_book_letters n_bytes c_size c_shift c_link c_lastWordLength c_lastWordVowels c_book_size a_book_lengths a_book_letters a_bytes) → va_S A s.heap H locs → lv_has ls 5 [(0, .ref q_this), (1, .int x1), (2, .int x2)] → W p l e jr_Page_writeText s m args below meth c H locs 0 0 Q (F0 m 6 ls [])) (x2 : Int32) (x3 : Int32) (c_size : Int32) (c_shift : Int32) (c_link : Int32) (a_bytes : (Nat → Int32)) (H : Heap) (locs : List Loc) (ls : Array Slot), jf_Page_writeText_b48 n_bytes k6 x2 x3 c_size c_shift c_link a_bytes = some T → va_P E.1 vwCl (jw_Page_writeText E q_this q_book q_bytes q_book_kinds q_book_strokeCounts q_book_strokes q_book_lengths q_book_letters n_bytes c_size c_shift c_link c_lastWordLength c_lastWordVowels c_book_size a_book_lengths a_book_letters a_bytes) H → va_D A (jw_Page_writeText E q_this q_book q_bytes q_book_kinds q_book_strokeCounts q_book_strokes q_book_lengths q_book_letters n_bytes c_size c_shift c_link c_lastWordLength c_lastWordVowels c_book_size a_book_lengths a_book_letters a_bytes) → va_S A s.heap H locs → lv_has ls 5 [(0, .ref q_this), (1, .int x1), (2, .int x2), (3, .int x3)] → W p l e jr_Page_writeText s m args below meth c H locs 0 0 Q (F0 m 48 ls []) := by
    intro k6 hk6 x2 x3 c_size c_shift c_link a_bytes H locs ls h hP hD hS hl
    unfold jf_Page_writeText_b48 at h
    refine lv_iconst (v := 1) hx hb dX4_writeText_48 (by decide) ?_
    refine lv_goto (tgt := 53) hx hb dX4_writeText_49 (by decide) ?_
    exact kb53 k6 hk6  x2 x3 1 c_size c_shift c_link a_bytes _ _ _ h hP hD hS (lv_sub hl [0, 1, 2, 3] rfl)
  have kb52 : ∀ (k6 : Int32 → Int32 → Int32 → Int32 → (Nat → Int32) → Option (Int32 × Int32 × Int32 × (Nat → Int32))) (hk6 : ∀ (x2 : Int32) (c_size : Int32) (c_shift : Int32) (c_link : Int32) (a_bytes : (Nat → Int32)) (H : Heap) (locs : List Loc) (ls : Array Slot), k6 x2 c_size c_shift c_link a_bytes = some T → va_P E.1 vwCl (jw_Page_writeText E q_this q_book q_bytes q_book_kinds q_book_strokeCounts q_book_strokes q_book_lengths q_book_letters n_bytes c_size c_shift c_link c_lastWordLength c_lastWordVowels c_book_size a_book_lengths a_book_letters a_bytes) H → va_D A (jw_Page_writeText E q_this q_book q_bytes q_book_kinds q_book_strokeCounts q_book_strokes q_book_lengths q_book_letters n_bytes c_size c_shift c_link c_lastWordLength c_lastWordVowels c_book_size a_book_lengths a_book_letters a_bytes) → va_S A s.heap H locs → lv_has ls 5 [(0, .ref q_this), (1, .int x1), (2, .int x2)] → W p l e jr_Page_writeText s m args below meth c H locs 0 0 Q (F0 m 6 ls [])) (x2 : Int32) (x3 : Int32) (c_size : Int32) (c_shift : Int32) (c_link : Int32) (a_bytes : (Nat → Int32)) (H : Heap) (locs : List Loc) (ls : Array Slot), jf_Page_writeText_b52 n_bytes k6 x2 x3 c_size c_shift c_link a_bytes = some T → va_P E.1 vwCl (jw_Page_writeText E q_this q_book q_bytes q_book_kinds q_book_strokeCounts q_book_strokes q_book_lengths q_book_letters n_bytes c_size c_shift c_link c_lastWordLength c_lastWordVowels c_book_size a_book_lengths a_book_letters a_bytes) H → va_D A (jw_Page_writeText E q_this q_book q_bytes q_book_kinds q_book_strokeCounts q_book_strokes q_book_lengths q_book_letters n_bytes c_size c_shift c_link c_lastWordLength c_lastWordVowels c_book_size a_book_lengths a_book_letters a_bytes) → va_S A s.heap H locs → lv_has ls 5 [(0, .ref q_this), (1, .int x1), (2, .int x2), (3, .int x3)] → W p l e jr_Page_writeText s m args below meth c H locs 0 0 Q (F0 m 52 ls []) := by
    intro k6 hk6 x2 x3 c_size c_shift c_link a_bytes H locs ls h hP hD hS hl
    unfold jf_Page_writeText_b52 at h
    refine lv_iconst (v := 0) hx hb dX4_writeText_52 (by decide) ?_
    exact kb53 k6 hk6  x2 x3 0 c_size c_shift c_link a_bytes _ _ _ h hP hD hS (lv_sub hl [0, 1, 2, 3] rfl)
  have kb6 : ∀ (n : Nat) (x2 : Int32) (c_size : Int32) (c_shift : Int32) (c_link : Int32) (a_bytes : (Nat → Int32)) (H : Heap) (locs : List Loc) (ls : Array Slot), jf_Page_writeText_b6 x1 n_bytes c_book_size a_book_lengths a_book_letters n x2 c_size c_shift c_link a_bytes = some T → va_P E.1 vwCl (jw_Page_writeText E q_this q_book q_bytes q_book_kinds q_book_strokeCounts q_book_strokes q_book_lengths q_book_letters n_bytes c_size c_shift c_link c_lastWordLength c_lastWordVowels c_book_size a_book_lengths a_book_letters a_bytes) H → va_D A (jw_Page_writeText E q_this q_book q_bytes q_book_kinds q_book_strokeCounts q_book_strokes q_book_lengths q_book_letters n_bytes c_size c_shift c_link c_lastWordLength c_lastWordVowels c_book_size a_book_lengths a_book_letters a_bytes) → va_S A s.heap H locs → lv_has ls 5 [(0, .ref q_this), (1, .int x1), (2, .int x2)] → W p l e jr_Page_writeText s m args below meth c H locs 0 0 Q (F0 m 6 ls []) := by
    intro n
    induction n with
    | zero => intro x2 c_size c_shift c_link a_bytes H locs ls h; exact j_none (α := Int32 × Int32 × Int32 × (Nat → Int32)) h
    | succ n ih =>
      intro x2 c_size c_shift c_link a_bytes H locs ls h hP hD hS hl
      rw [jf_Page_writeText_b6] at h
      refine lv_iload_n hx hb dX4_writeText_6 rfl (lv_at hl 2 rfl) ?_
      refine lv_aload_n hx hb dX4_writeText_7 rfl (lv_at hl 0 rfl) ?_
      refine va_get (D := E.1) (ci := 4) (v := .ref q_book) (C := RX4) (T := TX4) (N := 7) hx hb hts hin4 hown hK.1 hP 0 rfl rfl 0 (by decide) hk_9 (fun _ h9 => h9) rfl dX4_writeText_8 ?_
      refine lv_iload_n hx hb dX4_writeText_11 rfl (lv_at hl 1 rfl) ?_
      obtain ⟨r12, hf12, h⟩ := jbd h
      refine j_callVi (own := RX4) (As := [.int x1]) (rest := [.int x2]) hx hb hml hown hts hK hA hP hD hS (jc_Book_lengthOf l E q_book q_book_kinds q_book_strokeCounts q_book_strokes q_book_lengths q_book_letters c_book_size a_book_lengths x1 N hf12) gX4_writeText_X0_lengthOf rfl ⟨rfl, rfl⟩ 1 (by decide +kernel) rfl rfl 1 0 rfl rfl [1, 2] [0, 3, 4] [0, 3, 4, 1, 2] rfl rfl rfl rfl rfl rfl rfl hl.1 rfl rfl dX4_writeText_12 (fun H locs hP hD hS => ?_)
      replace hP : va_P E.1 vwCl (jw_Page_writeText E q_this q_book q_bytes q_book_kinds q_book_strokeCounts q_book_strokes q_book_lengths q_book_letters n_bytes c_size c_shift c_link c_lastWordLength c_lastWordVowels c_book_size a_book_lengths a_book_letters a_bytes) H := hP
      replace hD : va_D A (jw_Page_writeText E q_this q_book q_bytes q_book_kinds q_book_strokeCounts q_book_strokes q_book_lengths q_book_letters n_bytes c_size c_shift c_link c_lastWordLength c_lastWordVowels c_book_size a_book_lengths a_book_letters a_bytes) := hD
      refine lv_icmp_ge (tgt := 88) hx hb dX4_writeText_15 (by decide) (fun hq15 => ?_) (fun hq15 => ?_)
      · replace h := jif_t hq15 h
        exact kb88   c_size c_shift c_link a_bytes _ _ _ h hP hD hS (lv_sub hl [0] rfl)
      · replace h := jif_f hq15 h
        refine lv_aload_n hx hb dX4_writeText_18 rfl (lv_at hl 0 rfl) ?_
        refine va_get (D := E.1) (ci := 4) (v := .ref q_book) (C := RX4) (T := TX4) (N := 7) hx hb hts hin4 hown hK.1 hP 0 rfl rfl 0 (by decide) hk_9 (fun _ h9 => h9) rfl dX4_writeText_19 ?_
        refine lv_iload_n hx hb dX4_writeText_22 rfl (lv_at hl 1 rfl) ?_
        refine lv_iload_n hx hb dX4_writeText_23 rfl (lv_at hl 2 rfl) ?_
        obtain ⟨r24, hf24, h⟩ := jbd h
        refine j_callVi (own := RX4) (As := [.int x1, .int x2]) (rest := []) hx hb hml hown hts hK hA hP hD hS (jc_Book_letterAt l E q_book q_book_kinds q_book_strokeCounts q_book_strokes q_book_lengths q_book_letters c_book_size a_book_lengths a_book_letters x1 x2 N hf24) gX4_writeText_X0_letterAt rfl ⟨rfl, rfl⟩ 2 (by decide +kernel) rfl rfl 1 0 rfl rfl [1, 2, 3] [0, 4] [0, 2, 3, 4, 1] rfl rfl rfl rfl rfl rfl rfl hl.1 rfl rfl dX4_writeText_24 (fun H locs hP hD hS => ?_)
        replace hP : va_P E.1 vwCl (jw_Page_writeText E q_this q_book q_bytes q_book_kinds q_book_strokeCounts q_book_strokes q_book_lengths q_book_letters n_bytes c_size c_shift c_link c_lastWordLength c_lastWordVowels c_book_size a_book_lengths a_book_letters a_bytes) H := hP
        replace hD : va_D A (jw_Page_writeText E q_this q_book q_bytes q_book_kinds q_book_strokeCounts q_book_strokes q_book_lengths q_book_letters n_bytes c_size c_shift c_link c_lastWordLength c_lastWordVowels c_book_size a_book_lengths a_book_letters a_bytes) := hD
        refine lv_istore_n (lv' := [(3, .int r24), (0, .ref q_this), (1, .int x1), (2, .int x2)]) hx hb dX4_writeText_27 rfl hl (by decide) rfl (fun ls hl => ?_)
        refine lv_aload_n hx hb dX4_writeText_28 rfl (lv_at hl 1 rfl) ?_
        refine va_get (D := E.1) (ci := 4) (v := .int c_shift) (C := RX4) (T := TX4) (N := 7) hx hb hts hin4 hown hK.1 hP 0 rfl rfl 3 (by decide) hk_29 (fun _ h9 => h9) rfl dX4_writeText_29 ?_
        refine lv_iconst (v := 2) hx hb dX4_writeText_32 (by decide) ?_
        refine lv_icmp_eq (tgt := 48) hx hb dX4_writeText_33 (by decide) (fun hq33 => ?_) (fun hq33 => ?_)
        · replace h := jif_t hq33 h
          exact kb48 (jf_Page_writeText_b6 x1 n_bytes c_book_size a_book_lengths a_book_letters n) ih  x2 r24 c_size c_shift c_link a_bytes _ _ _ h hP hD hS (lv_sub hl [1, 2, 3, 0] rfl)
        · replace h := jif_f hq33 h
          refine lv_aload_n hx hb dX4_writeText_36 rfl (lv_at hl 1 rfl) ?_
          refine va_get (D := E.1) (ci := 4) (v := .int c_shift) (C := RX4) (T := TX4) (N := 7) hx hb hts hin4 hown hK.1 hP 0 rfl rfl 3 (by decide) hk_29 (fun _ h9 => h9) rfl dX4_writeText_37 ?_
          refine lv_iconst (v := 1) hx hb dX4_writeText_40 (by decide) ?_
          refine lv_icmp_ne (tgt := 52) hx hb dX4_writeText_41 (by decide) (fun hq41 => ?_) (fun hq41 => ?_)
          · replace h := jif_f hq41 h
            exact kb52 (jf_Page_writeText_b6 x1 n_bytes c_book_size a_book_lengths a_book_letters n) ih  x2 r24 c_size c_shift c_link a_bytes _ _ _ h hP hD hS (lv_sub hl [1, 2, 3, 0] rfl)
          · replace h := jif_t hq41 h
            refine lv_iload_n hx hb dX4_writeText_44 rfl (lv_at hl 3 rfl) ?_
            refine lv_if_ne (tgt := 52) hx hb dX4_writeText_45 (by decide) (fun hq45 => ?_) (fun hq45 => ?_)
            · replace h := jif_f hq45 h
              exact kb52 (jf_Page_writeText_b6 x1 n_bytes c_book_size a_book_lengths a_book_letters n) ih  x2 r24 c_size c_shift c_link a_bytes _ _ _ h hP hD hS (lv_sub hl [1, 2, 3, 0] rfl)
            · replace h := jif_t hq45 h
              exact kb48 (jf_Page_writeText_b6 x1 n_bytes c_book_size a_book_lengths a_book_letters n) ih  x2 r24 c_size c_shift c_link a_bytes _ _ _ h hP hD hS (lv_sub hl [1, 2, 3, 0] rfl)
  unfold jf_Page_writeText at h
  refine lv_aload_n hx hb dX4_writeText_0 rfl (lv_at hl 0 rfl) ?_
  obtain ⟨⟨c_size_1, c_link_1, a_bytes_1⟩, hf1, h⟩ := jbd h
  refine j_callVv (own := RX4) (As := []) (rest := []) hx hb hml hown hts hK hA hP hD hS (jc_Page_putBlank l E q_this q_book q_bytes n_bytes c_size c_shift c_link c_lastWordLength c_lastWordVowels a_bytes N hf1) gX4_writeText_X4_putBlank rfl ⟨rfl, rfl⟩ 0 (by decide +kernel) rfl rfl 0 4 rfl rfl [0, 4] [1, 2, 3] [3, 0, 1, 2, 4] rfl rfl rfl rfl rfl rfl rfl hl.1 rfl rfl dX4_writeText_1 (fun H locs hP hD hS => ?_)
  replace hP : va_P E.1 vwCl (jw_Page_writeText E q_this q_book q_bytes q_book_kinds q_book_strokeCounts q_book_strokes q_book_lengths q_book_letters n_bytes c_size_1 c_shift c_link_1 c_lastWordLength c_lastWordVowels c_book_size a_book_lengths a_book_letters a_bytes_1) H := hP
  replace hD : va_D A (jw_Page_writeText E q_this q_book q_bytes q_book_kinds q_book_strokeCounts q_book_strokes q_book_lengths q_book_letters n_bytes c_size_1 c_shift c_link_1 c_lastWordLength c_lastWordVowels c_book_size a_book_lengths a_book_letters a_bytes_1) := hD
  refine lv_iconst (v := 0) hx hb dX4_writeText_4 (by decide) ?_
  refine lv_istore_n (lv' := [(2, .int 0), (0, .ref q_this), (1, .int x1)]) hx hb dX4_writeText_5 rfl hl (by decide) rfl (fun ls hl => ?_)
  exact kb6  N 0 c_size_1 c_shift c_link_1 a_bytes_1 _ _ _ h hP hD hS (lv_sub hl [1, 2, 0] rfl)
abbrev jw_Page_writeMark (E : jE) (q_this q_book q_bytes q_book_kinds q_book_strokeCounts q_book_strokes q_book_lengths q_book_letters : Nat) (n_bytes : Nat) (c_size : Int32) (c_shift : Int32) (c_link : Int32) (c_lastWordLength : Int32) (c_lastWordVowels : Int32) (c_book_size : Int32) (a_book_lengths : (Nat → Int32)) (a_book_letters : (Nat → Int32)) (a_bytes : (Nat → Int32)) : va_W := [(q_this, .inr (4, [.ref q_book, .ref q_bytes, .int c_size, .int c_shift, .int c_link, .int c_lastWordLength, .int c_lastWordVowels])), (q_book, .inr (0, [.ref q_book_kinds, .ref q_book_strokeCounts, .ref q_book_strokes, .ref q_book_lengths, .ref q_book_letters, .int c_book_size])), (q_book_lengths, .inl (E.2.2.1, 60, .inl a_book_lengths)), (q_book_letters, .inl (E.2.1, 960, .inl a_book_letters)), (q_bytes, .inl (E.2.1, n_bytes, .inl a_bytes))]
def jr_Page_writeMark : Room := { frames := 1, cells := 0, slots := 0, locals := 23 }
set_option maxHeartbeats 4000000 in
set_option maxRecDepth 100000 in
theorem jc_Page_writeMark (l : Launch) (E : jE) (q_this q_book q_bytes q_book_kinds q_book_strokeCounts q_book_strokes q_book_lengths q_book_letters : Nat) (n_bytes : Nat) (c_size : Int32) (c_shift : Int32) (c_link : Int32) (c_lastWordLength : Int32) (c_lastWordVowels : Int32) (c_book_size : Int32) (a_book_lengths : (Nat → Int32)) (a_book_letters : (Nat → Int32)) (a_bytes : (Nat → Int32)) (x1 : Int32) (N : Nat) {T : Int32 × Int32 × (Nat → Int32)} (h : jf_Page_writeMark x1 n_bytes c_book_size a_book_lengths a_book_letters c_size c_link a_bytes = some T) : jMv l yX4_writeMark wsX4_writeMark jr_Page_writeMark E [.ref q_this, .int x1] (jw_Page_writeMark E q_this q_book q_bytes q_book_kinds q_book_strokeCounts q_book_strokes q_book_lengths q_book_letters n_bytes c_size c_shift c_link c_lastWordLength c_lastWordVowels c_book_size a_book_lengths a_book_letters a_bytes) (jw_Page_writeMark E q_this q_book q_bytes q_book_kinds q_book_strokeCounts q_book_strokes q_book_lengths q_book_letters n_bytes T.1 c_shift T.2.1 c_lastWordLength c_lastWordVowels c_book_size a_book_lengths a_book_letters T.2.2) := by
  refine jMv.begin (cc := cX4_writeMark) (maxL := 2) (ret := none) (by decide) rfl (Nat.le_of_ble_eq_true rfl) ?_
  intro p e s m args below meth c A ls Q hQ hx hb hr hml hown hlocks hts hK hA hP hD hS hl
  replace hown : s.vm.findClass RX4 = some m.cls := hown
  replace hl : lv_has ls 2 [(0, .ref q_this), (1, .int x1)] := hl
  have hin4 : ∀ w ∈ u_ws RX4 TX4 7, w ∈ wsX4_writeMark := by decide +kernel
  have hk_9 := hts (.fieldLink RX4 9 "StenoRoom$Page" "book" "LStenoRoom$Book;") (by decide +kernel)
  have hk_32 := hts (.fieldLink RX4 32 "StenoRoom$Page" "link" "I") (by decide +kernel)
  unfold jf_Page_writeMark at h
  refine lv_aload_n hx hb dX4_writeMark_0 rfl (lv_at hl 0 rfl) ?_
  refine lv_aload_n hx hb dX4_writeMark_1 rfl (lv_at hl 0 rfl) ?_
  refine va_get (D := E.1) (ci := 4) (v := .ref q_book) (C := RX4) (T := TX4) (N := 7) hx hb hts hin4 hown hK.1 hP 0 rfl rfl 0 (by decide) hk_9 (fun _ h9 => h9) rfl dX4_writeMark_2 ?_
  refine lv_iload_n hx hb dX4_writeMark_5 rfl (lv_at hl 1 rfl) ?_
  refine lv_iconst (v := 0) hx hb dX4_writeMark_6 (by decide) ?_
  obtain ⟨r7, hf7, h⟩ := jbd h
  refine j_callVi (own := RX4) (As := [.int x1, .int 0]) (rest := [.ref q_this]) hx hb hml hown hts hK hA hP hD hS (jc_Book_letterAt l E q_book q_book_kinds q_book_strokeCounts q_book_strokes q_book_lengths q_book_letters c_book_size a_book_lengths a_book_letters x1 0 N hf7) gX4_writeMark_X0_letterAt rfl ⟨rfl, rfl⟩ 2 (by decide +kernel) rfl rfl 1 0 rfl rfl [1, 2, 3] [0, 4] [0, 2, 3, 4, 1] rfl rfl rfl rfl rfl rfl rfl hl.1 rfl rfl dX4_writeMark_7 (fun H locs hP hD hS => ?_)
  replace hP : va_P E.1 vwCl (jw_Page_writeMark E q_this q_book q_bytes q_book_kinds q_book_strokeCounts q_book_strokes q_book_lengths q_book_letters n_bytes c_size c_shift c_link c_lastWordLength c_lastWordVowels c_book_size a_book_lengths a_book_letters a_bytes) H := hP
  replace hD : va_D A (jw_Page_writeMark E q_this q_book q_bytes q_book_kinds q_book_strokeCounts q_book_strokes q_book_lengths q_book_letters n_bytes c_size c_shift c_link c_lastWordLength c_lastWordVowels c_book_size a_book_lengths a_book_letters a_bytes) := hD
  obtain ⟨⟨c_size_10, a_bytes_10⟩, hf10, h⟩ := jbd h
  refine j_callVv (own := RX4) (As := [.int r7]) (rest := []) hx hb hml hown hts hK hA hP hD hS (jc_Page_put l E q_this q_book q_bytes n_bytes c_size c_shift c_link c_lastWordLength c_lastWordVowels a_bytes r7 N hf10) gX4_writeMark_X4_put rfl ⟨rfl, rfl⟩ 1 (by decide +kernel) rfl rfl 0 4 rfl rfl [0, 4] [1, 2, 3] [3, 0, 1, 2, 4] rfl rfl rfl rfl rfl rfl rfl hl.1 rfl rfl dX4_writeMark_10 (fun H locs hP hD hS => ?_)
  replace hP : va_P E.1 vwCl (jw_Page_writeMark E q_this q_book q_bytes q_book_kinds q_book_strokeCounts q_book_strokes q_book_lengths q_book_letters n_bytes c_size_10 c_shift c_link c_lastWordLength c_lastWordVowels c_book_size a_book_lengths a_book_letters a_bytes_10) H := hP
  replace hD : va_D A (jw_Page_writeMark E q_this q_book q_bytes q_book_kinds q_book_strokeCounts q_book_strokes q_book_lengths q_book_letters n_bytes c_size_10 c_shift c_link c_lastWordLength c_lastWordVowels c_book_size a_book_lengths a_book_letters a_bytes_10) := hD
  refine lv_aload_n hx hb dX4_writeMark_13 rfl (lv_at hl 0 rfl) ?_
  refine lv_iconst (v := 0) hx hb dX4_writeMark_14 (by decide) ?_
  refine va_put (D := E.1) (ci := 4) (v := .int 0) (ty := .int) (C := RX4) (T := TX4) (N := 7) hx hb hts hin4 tyX4 tyX4_ok nmX4 hown hK.1 hP hD hS 0 rfl rfl 4 (by decide) hk_32 (fun _ h9 => h9) rfl (by decide +kernel) rfl rfl (Nat.le_of_ble_eq_true rfl) dX4_writeMark_15 (fun H locs hP hD hS => ?_)
  replace hP : va_P E.1 vwCl (jw_Page_writeMark E q_this q_book q_bytes q_book_kinds q_book_strokeCounts q_book_strokes q_book_lengths q_book_letters n_bytes c_size_10 c_shift 0 c_lastWordLength c_lastWordVowels c_book_size a_book_lengths a_book_letters a_bytes_10) H := hP
  replace hD : va_D A (jw_Page_writeMark E q_this q_book q_bytes q_book_kinds q_book_strokeCounts q_book_strokes q_book_lengths q_book_letters n_bytes c_size_10 c_shift 0 c_lastWordLength c_lastWordVowels c_book_size a_book_lengths a_book_letters a_bytes_10) := hD
  exact j_vret (u := (c_size_10, 0, a_bytes_10)) (wv := (fun T => (jw_Page_writeMark E q_this q_book q_bytes q_book_kinds q_book_strokeCounts q_book_strokes q_book_lengths q_book_letters n_bytes T.1 c_shift T.2.1 c_lastWordLength c_lastWordVowels c_book_size a_book_lengths a_book_letters T.2.2))) h hQ hx hb hr hlocks hS hP hD dX4_writeMark_18
abbrev jw_Room_isLetter (E : jE) : va_W := []
def jr_Room_isLetter : Room := { frames := 0, cells := 0, slots := 0, locals := 0 }
set_option maxHeartbeats 4000000 in
set_option maxRecDepth 100000 in
theorem jc_Room_isLetter (l : Launch) (E : jE) (x0 : Int32) (N : Nat) {T : Int32} (h : jf_Room_isLetter x0 = some T) : jMi l yX10_isLetter wsX10_isLetter jr_Room_isLetter E [.int x0] (jw_Room_isLetter E) (T) (jw_Room_isLetter E) := by
  refine jMi.begin (cc := cX10_isLetter) (maxL := 1) (ret := (some .boolean)) (by decide) rfl (Nat.le_of_ble_eq_true rfl) ?_
  intro p e s m args below meth c A ls Q hQ hx hb hr hml hown hlocks hts hK hA hP hD hS hl
  replace hown : s.vm.findClass RX10 = some m.cls := hown
  replace hl : lv_has ls 1 [(0, .int x0)] := hl
  have kb12 : ∀ (H : Heap) (locs : List Loc) (ls : Array Slot), jf_Room_isLetter_b12 x0 = some T → va_P E.1 vwCl (jw_Room_isLetter E) H → va_D A (jw_Room_isLetter E) → va_S A s.heap H locs → lv_has ls 1 [(0, .int x0)] → W p l e jr_Room_isLetter s m args below meth c H locs 0 0 Q (F0 m 12 ls []) := by
    intro   H locs ls h hP hD hS hl
    unfold jf_Room_isLetter_b12 at h
    refine lv_iload_n hx hb dX10_isLetter_12 rfl (lv_at hl 0 rfl) ?_
    refine lv_bipush (v := 65) hx hb dX10_isLetter_13 (by decide) ?_
    refine lv_icmp_lt (tgt := 28) hx hb dX10_isLetter_15 (by decide) (fun hq15 => ?_) (fun hq15 => ?_)
    · replace h := jif_t hq15 h
      refine lv_iconst (v := 0) hx hb dX10_isLetter_28 (by decide) ?_
      exact j_iret (u := 0) (rv := (fun T => T)) (wv := (fun _ => (jw_Room_isLetter E))) h hQ hx hb hr jb_0 hlocks hS hP hD dX10_isLetter_29
    · replace h := jif_f hq15 h
      refine lv_iload_n hx hb dX10_isLetter_18 rfl (lv_at hl 0 rfl) ?_
      refine lv_bipush (v := 90) hx hb dX10_isLetter_19 (by decide) ?_
      refine lv_icmp_gt (tgt := 28) hx hb dX10_isLetter_21 (by decide) (fun hq21 => ?_) (fun hq21 => ?_)
      · replace h := jif_t hq21 h
        refine lv_iconst (v := 0) hx hb dX10_isLetter_28 (by decide) ?_
        exact j_iret (u := 0) (rv := (fun T => T)) (wv := (fun _ => (jw_Room_isLetter E))) h hQ hx hb hr jb_0 hlocks hS hP hD dX10_isLetter_29
      · replace h := jif_f hq21 h
        refine lv_iconst (v := 1) hx hb dX10_isLetter_24 (by decide) ?_
        refine lv_goto (tgt := 29) hx hb dX10_isLetter_25 (by decide) ?_
        exact j_iret (u := 1) (rv := (fun T => T)) (wv := (fun _ => (jw_Room_isLetter E))) h hQ hx hb hr jb_1 hlocks hS hP hD dX10_isLetter_29
  unfold jf_Room_isLetter at h
  refine lv_iload_n hx hb dX10_isLetter_0 rfl (lv_at hl 0 rfl) ?_
  refine lv_bipush (v := 97) hx hb dX10_isLetter_1 (by decide) ?_
  refine lv_icmp_lt (tgt := 12) hx hb dX10_isLetter_3 (by decide) (fun hq3 => ?_) (fun hq3 => ?_)
  · replace h := jif_t hq3 h
    exact kb12    _ _ _ h hP hD hS (lv_sub hl [0] rfl)
  · replace h := jif_f hq3 h
    refine lv_iload_n hx hb dX10_isLetter_6 rfl (lv_at hl 0 rfl) ?_
    refine lv_bipush (v := 122) hx hb dX10_isLetter_7 (by decide) ?_
    refine lv_icmp_le (tgt := 24) hx hb dX10_isLetter_9 (by decide) (fun hq9 => ?_) (fun hq9 => ?_)
    · replace h := jif_t hq9 h
      refine lv_iconst (v := 1) hx hb dX10_isLetter_24 (by decide) ?_
      refine lv_goto (tgt := 29) hx hb dX10_isLetter_25 (by decide) ?_
      exact j_iret (u := 1) (rv := (fun T => T)) (wv := (fun _ => (jw_Room_isLetter E))) h hQ hx hb hr jb_1 hlocks hS hP hD dX10_isLetter_29
    · replace h := jif_f hq9 h
      exact kb12    _ _ _ h hP hD hS (lv_sub hl [0] rfl)
abbrev jw_Page_endsByLetter (E : jE) (q_this q_book q_bytes : Nat) (n_bytes : Nat) (c_size : Int32) (c_shift : Int32) (c_link : Int32) (c_lastWordLength : Int32) (c_lastWordVowels : Int32) (a_bytes : (Nat → Int32)) : va_W := [(q_this, .inr (4, [.ref q_book, .ref q_bytes, .int c_size, .int c_shift, .int c_link, .int c_lastWordLength, .int c_lastWordVowels])), (q_bytes, .inl (E.2.1, n_bytes, .inl a_bytes))]
def jr_Page_endsByLetter : Room := { frames := 1, cells := 0, slots := 0, locals := 20 }
set_option maxHeartbeats 4000000 in
set_option maxRecDepth 100000 in
theorem jc_Page_endsByLetter (l : Launch) (E : jE) (q_this q_book q_bytes : Nat) (n_bytes : Nat) (c_size : Int32) (c_shift : Int32) (c_link : Int32) (c_lastWordLength : Int32) (c_lastWordVowels : Int32) (a_bytes : (Nat → Int32)) (N : Nat) {T : Int32} (h : jf_Page_endsByLetter n_bytes c_size a_bytes = some T) : jMi l yX4_endsByLetter wsX4_endsByLetter jr_Page_endsByLetter E [.ref q_this] (jw_Page_endsByLetter E q_this q_book q_bytes n_bytes c_size c_shift c_link c_lastWordLength c_lastWordVowels a_bytes) (T) (jw_Page_endsByLetter E q_this q_book q_bytes n_bytes c_size c_shift c_link c_lastWordLength c_lastWordVowels a_bytes) := by
  refine jMi.begin (cc := cX4_endsByLetter) (maxL := 1) (ret := (some .boolean)) (by decide) rfl (Nat.le_of_ble_eq_true rfl) ?_
  intro p e s m args below meth c A ls Q hQ hx hb hr hml hown hlocks hts hK hA hP hD hS hl
  replace hown : s.vm.findClass RX4 = some m.cls := hown
  replace hl : lv_has ls 1 [(0, .ref q_this)] := hl
  have hin4 : ∀ w ∈ u_ws RX4 TX4 7, w ∈ wsX4_endsByLetter := by decide +kernel
  have hk_21 := hts (.fieldLink RX4 21 "StenoRoom$Page" "bytes" "[B") (by decide +kernel)
  have hk_25 := hts (.fieldLink RX4 25 "StenoRoom$Page" "size" "I") (by decide +kernel)
  unfold jf_Page_endsByLetter at h
  refine lv_aload_n hx hb dX4_endsByLetter_0 rfl (lv_at hl 0 rfl) ?_
  refine va_get (D := E.1) (ci := 4) (v := .int c_size) (C := RX4) (T := TX4) (N := 7) hx hb hts hin4 hown hK.1 hP 0 rfl rfl 2 (by decide) hk_25 (fun _ h9 => h9) rfl dX4_endsByLetter_1 ?_
  refine lv_if_le (tgt := 28) hx hb dX4_endsByLetter_4 (by decide) (fun hq4 => ?_) (fun hq4 => ?_)
  · replace h := jif_t hq4 h
    refine lv_iconst (v := 0) hx hb dX4_endsByLetter_28 (by decide) ?_
    exact j_iret (u := 0) (rv := (fun T => T)) (wv := (fun _ => (jw_Page_endsByLetter E q_this q_book q_bytes n_bytes c_size c_shift c_link c_lastWordLength c_lastWordVowels a_bytes))) h hQ hx hb hr jb_0 hlocks hS hP hD dX4_endsByLetter_29
  · replace h := jif_f hq4 h
    refine lv_aload_n hx hb dX4_endsByLetter_7 rfl (lv_at hl 0 rfl) ?_
    refine va_get (D := E.1) (ci := 4) (v := .ref q_bytes) (C := RX4) (T := TX4) (N := 7) hx hb hts hin4 hown hK.1 hP 0 rfl rfl 1 (by decide) hk_21 (fun _ h9 => h9) rfl dX4_endsByLetter_8 ?_
    refine lv_aload_n hx hb dX4_endsByLetter_11 rfl (lv_at hl 0 rfl) ?_
    refine va_get (D := E.1) (ci := 4) (v := .int c_size) (C := RX4) (T := TX4) (N := 7) hx hb hts hin4 hown hK.1 hP 0 rfl rfl 2 (by decide) hk_25 (fun _ h9 => h9) rfl dX4_endsByLetter_12 ?_
    refine lv_iconst (v := 1) hx hb dX4_endsByLetter_15 (by decide) ?_
    refine lv_isub hx hb dX4_endsByLetter_16 ?_
    obtain ⟨g17, h⟩ := jga_e h
    refine va_bald hx hb hK.1 hP 1 0 rfl rfl g17 dX4_endsByLetter_17 ?_
    obtain ⟨r18, hf18, h⟩ := jbd h
    refine j_callNi (own := RX4) (As := [.int (a_bytes (c_size - 1).toNatClampNeg)]) (rest := []) hx hb hml hown hts hK hA hP hD hS (jc_Room_isLetter l E (a_bytes (c_size - 1).toNatClampNeg) N hf18) gX4_endsByLetter_X10_isLetter_n103 (by decide +kernel) (by decide +kernel) (by decide +kernel) rfl ⟨rfl, rfl⟩ 1 (by decide +kernel) rfl rfl [] [0, 1] [0, 1] rfl rfl rfl rfl rfl rfl rfl hl.1 rfl rfl dX4_endsByLetter_18 (fun H locs hP hD hS => ?_)
    replace hP : va_P E.1 vwCl (jw_Page_endsByLetter E q_this q_book q_bytes n_bytes c_size c_shift c_link c_lastWordLength c_lastWordVowels a_bytes) H := hP
    replace hD : va_D A (jw_Page_endsByLetter E q_this q_book q_bytes n_bytes c_size c_shift c_link c_lastWordLength c_lastWordVowels a_bytes) := hD
    refine lv_if_eq (tgt := 28) hx hb dX4_endsByLetter_21 (by decide) (fun hq21 => ?_) (fun hq21 => ?_)
    · replace h := jif_t hq21 h
      refine lv_iconst (v := 0) hx hb dX4_endsByLetter_28 (by decide) ?_
      exact j_iret (u := 0) (rv := (fun T => T)) (wv := (fun _ => (jw_Page_endsByLetter E q_this q_book q_bytes n_bytes c_size c_shift c_link c_lastWordLength c_lastWordVowels a_bytes))) h hQ hx hb hr jb_0 hlocks hS hP hD dX4_endsByLetter_29
    · replace h := jif_f hq21 h
      refine lv_iconst (v := 1) hx hb dX4_endsByLetter_24 (by decide) ?_
      refine lv_goto (tgt := 29) hx hb dX4_endsByLetter_25 (by decide) ?_
      exact j_iret (u := 1) (rv := (fun T => T)) (wv := (fun _ => (jw_Page_endsByLetter E q_this q_book q_bytes n_bytes c_size c_shift c_link c_lastWordLength c_lastWordVowels a_bytes))) h hQ hx hb hr jb_1 hlocks hS hP hD dX4_endsByLetter_29
abbrev jw_Room_isVowel (E : jE) : va_W := []
def jr_Room_isVowel : Room := { frames := 0, cells := 0, slots := 0, locals := 0 }
set_option maxHeartbeats 4000000 in
set_option maxRecDepth 100000 in
theorem jc_Room_isVowel (l : Launch) (E : jE) (x0 : Int32) (N : Nat) {T : Int32} (h : jf_Room_isVowel x0 = some T) : jMi l yX10_isVowel wsX10_isVowel jr_Room_isVowel E [.int x0] (jw_Room_isVowel E) (T) (jw_Room_isVowel E) := by
  refine jMi.begin (cc := cX10_isVowel) (maxL := 1) (ret := (some .boolean)) (by decide) rfl (Nat.le_of_ble_eq_true rfl) ?_
  intro p e s m args below meth c A ls Q hQ hx hb hr hml hown hlocks hts hK hA hP hD hS hl
  replace hown : s.vm.findClass RX10 = some m.cls := hown
  replace hl : lv_has ls 1 [(0, .int x0)] := hl
  unfold jf_Room_isVowel at h
  refine lv_iload_n hx hb dX10_isVowel_0 rfl (lv_at hl 0 rfl) ?_
  refine lv_bipush (v := 97) hx hb dX10_isVowel_1 (by decide) ?_
  refine lv_icmp_eq (tgt := 30) hx hb dX10_isVowel_3 (by decide) (fun hq3 => ?_) (fun hq3 => ?_)
  · replace h := jif_t hq3 h
    refine lv_iconst (v := 1) hx hb dX10_isVowel_30 (by decide) ?_
    refine lv_goto (tgt := 35) hx hb dX10_isVowel_31 (by decide) ?_
    exact j_iret (u := 1) (rv := (fun T => T)) (wv := (fun _ => (jw_Room_isVowel E))) h hQ hx hb hr jb_1 hlocks hS hP hD dX10_isVowel_35
  · replace h := jif_f hq3 h
    refine lv_iload_n hx hb dX10_isVowel_6 rfl (lv_at hl 0 rfl) ?_
    refine lv_bipush (v := 101) hx hb dX10_isVowel_7 (by decide) ?_
    refine lv_icmp_eq (tgt := 30) hx hb dX10_isVowel_9 (by decide) (fun hq9 => ?_) (fun hq9 => ?_)
    · replace h := jif_t hq9 h
      refine lv_iconst (v := 1) hx hb dX10_isVowel_30 (by decide) ?_
      refine lv_goto (tgt := 35) hx hb dX10_isVowel_31 (by decide) ?_
      exact j_iret (u := 1) (rv := (fun T => T)) (wv := (fun _ => (jw_Room_isVowel E))) h hQ hx hb hr jb_1 hlocks hS hP hD dX10_isVowel_35
    · replace h := jif_f hq9 h
      refine lv_iload_n hx hb dX10_isVowel_12 rfl (lv_at hl 0 rfl) ?_
      refine lv_bipush (v := 105) hx hb dX10_isVowel_13 (by decide) ?_
      refine lv_icmp_eq (tgt := 30) hx hb dX10_isVowel_15 (by decide) (fun hq15 => ?_) (fun hq15 => ?_)
      · replace h := jif_t hq15 h
        refine lv_iconst (v := 1) hx hb dX10_isVowel_30 (by decide) ?_
        refine lv_goto (tgt := 35) hx hb dX10_isVowel_31 (by decide) ?_
        exact j_iret (u := 1) (rv := (fun T => T)) (wv := (fun _ => (jw_Room_isVowel E))) h hQ hx hb hr jb_1 hlocks hS hP hD dX10_isVowel_35
      · replace h := jif_f hq15 h
        refine lv_iload_n hx hb dX10_isVowel_18 rfl (lv_at hl 0 rfl) ?_
        refine lv_bipush (v := 111) hx hb dX10_isVowel_19 (by decide) ?_
        refine lv_icmp_eq (tgt := 30) hx hb dX10_isVowel_21 (by decide) (fun hq21 => ?_) (fun hq21 => ?_)
        · replace h := jif_t hq21 h
          refine lv_iconst (v := 1) hx hb dX10_isVowel_30 (by decide) ?_
          refine lv_goto (tgt := 35) hx hb dX10_isVowel_31 (by decide) ?_
          exact j_iret (u := 1) (rv := (fun T => T)) (wv := (fun _ => (jw_Room_isVowel E))) h hQ hx hb hr jb_1 hlocks hS hP hD dX10_isVowel_35
        · replace h := jif_f hq21 h
          refine lv_iload_n hx hb dX10_isVowel_24 rfl (lv_at hl 0 rfl) ?_
          refine lv_bipush (v := 117) hx hb dX10_isVowel_25 (by decide) ?_
          refine lv_icmp_ne (tgt := 34) hx hb dX10_isVowel_27 (by decide) (fun hq27 => ?_) (fun hq27 => ?_)
          · replace h := jif_f hq27 h
            refine lv_iconst (v := 0) hx hb dX10_isVowel_34 (by decide) ?_
            exact j_iret (u := 0) (rv := (fun T => T)) (wv := (fun _ => (jw_Room_isVowel E))) h hQ hx hb hr jb_0 hlocks hS hP hD dX10_isVowel_35
          · replace h := jif_t hq27 h
            refine lv_iconst (v := 1) hx hb dX10_isVowel_30 (by decide) ?_
            refine lv_goto (tgt := 35) hx hb dX10_isVowel_31 (by decide) ?_
            exact j_iret (u := 1) (rv := (fun T => T)) (wv := (fun _ => (jw_Room_isVowel E))) h hQ hx hb hr jb_1 hlocks hS hP hD dX10_isVowel_35
abbrev jw_Room_smallOf (E : jE) : va_W := []
def jr_Room_smallOf : Room := { frames := 0, cells := 0, slots := 0, locals := 0 }
set_option maxHeartbeats 4000000 in
set_option maxRecDepth 100000 in
theorem jc_Room_smallOf (l : Launch) (E : jE) (x0 : Int32) (N : Nat) {T : Int32} (h : jf_Room_smallOf x0 = some T) : jMi l yX10_smallOf wsX10_smallOf jr_Room_smallOf E [.int x0] (jw_Room_smallOf E) (T) (jw_Room_smallOf E) := by
  refine jMi.begin (cc := cX10_smallOf) (maxL := 1) (ret := (some .int)) (by decide) rfl (Nat.le_of_ble_eq_true rfl) ?_
  intro p e s m args below meth c A ls Q hQ hx hb hr hml hown hlocks hts hK hA hP hD hS hl
  replace hown : s.vm.findClass RX10 = some m.cls := hown
  replace hl : lv_has ls 1 [(0, .int x0)] := hl
  unfold jf_Room_smallOf at h
  refine lv_iload_n hx hb dX10_smallOf_0 rfl (lv_at hl 0 rfl) ?_
  refine lv_bipush (v := 65) hx hb dX10_smallOf_1 (by decide) ?_
  refine lv_icmp_lt (tgt := 22) hx hb dX10_smallOf_3 (by decide) (fun hq3 => ?_) (fun hq3 => ?_)
  · replace h := jif_t hq3 h
    refine lv_iload_n hx hb dX10_smallOf_22 rfl (lv_at hl 0 rfl) ?_
    exact j_iret (u := x0) (rv := (fun T => T)) (wv := (fun _ => (jw_Room_smallOf E))) h hQ hx hb hr rfl hlocks hS hP hD dX10_smallOf_23
  · replace h := jif_f hq3 h
    refine lv_iload_n hx hb dX10_smallOf_6 rfl (lv_at hl 0 rfl) ?_
    refine lv_bipush (v := 90) hx hb dX10_smallOf_7 (by decide) ?_
    refine lv_icmp_gt (tgt := 22) hx hb dX10_smallOf_9 (by decide) (fun hq9 => ?_) (fun hq9 => ?_)
    · replace h := jif_t hq9 h
      refine lv_iload_n hx hb dX10_smallOf_22 rfl (lv_at hl 0 rfl) ?_
      exact j_iret (u := x0) (rv := (fun T => T)) (wv := (fun _ => (jw_Room_smallOf E))) h hQ hx hb hr rfl hlocks hS hP hD dX10_smallOf_23
    · replace h := jif_f hq9 h
      refine lv_iload_n hx hb dX10_smallOf_12 rfl (lv_at hl 0 rfl) ?_
      refine lv_bipush (v := 65) hx hb dX10_smallOf_13 (by decide) ?_
      refine lv_isub hx hb dX10_smallOf_15 ?_
      refine lv_bipush (v := 97) hx hb dX10_smallOf_16 (by decide) ?_
      refine lv_iadd hx hb dX10_smallOf_18 ?_
      refine lv_goto (tgt := 23) hx hb dX10_smallOf_19 (by decide) ?_
      exact j_iret (u := ((x0 - 65) + 97)) (rv := (fun T => T)) (wv := (fun _ => (jw_Room_smallOf E))) h hQ hx hb hr rfl hlocks hS hP hD dX10_smallOf_23
abbrev jw_Page_measureLastWord (E : jE) (q_this q_book q_bytes : Nat) (n_bytes : Nat) (c_size : Int32) (c_shift : Int32) (c_link : Int32) (c_lastWordLength : Int32) (c_lastWordVowels : Int32) (a_bytes : (Nat → Int32)) : va_W := [(q_this, .inr (4, [.ref q_book, .ref q_bytes, .int c_size, .int c_shift, .int c_link, .int c_lastWordLength, .int c_lastWordVowels])), (q_bytes, .inl (E.2.1, n_bytes, .inl a_bytes))]
def jr_Page_measureLastWord : Room := { frames := 1, cells := 0, slots := 0, locals := 20 }
set_option maxHeartbeats 4000000 in
set_option maxRecDepth 100000 in
theorem jc_Page_measureLastWord (l : Launch) (E : jE) (q_this q_book q_bytes : Nat) (n_bytes : Nat) (c_size : Int32) (c_shift : Int32) (c_link : Int32) (c_lastWordLength : Int32) (c_lastWordVowels : Int32) (a_bytes : (Nat → Int32)) (x1 : Int32) (N : Nat) {T : Int32 × Int32} (h : jf_Page_measureLastWord N x1 n_bytes c_size a_bytes c_lastWordLength c_lastWordVowels = some T) : jMv l yX4_measureLastWord wsX4_measureLastWord jr_Page_measureLastWord E [.ref q_this, .int x1] (jw_Page_measureLastWord E q_this q_book q_bytes n_bytes c_size c_shift c_link c_lastWordLength c_lastWordVowels a_bytes) (jw_Page_measureLastWord E q_this q_book q_bytes n_bytes c_size c_shift c_link T.1 T.2 a_bytes) := by
  refine jMv.begin (cc := cX4_measureLastWord) (maxL := 4) (ret := none) (by decide) rfl (Nat.le_of_ble_eq_true rfl) ?_
  intro p e s m args below meth c A ls Q hQ hx hb hr hml hown hlocks hts hK hA hP hD hS hl
  replace hown : s.vm.findClass RX4 = some m.cls := hown
  replace hl : lv_has ls 4 [(0, .ref q_this), (1, .int x1)] := hl
  have hin4 : ∀ w ∈ u_ws RX4 TX4 7, w ∈ wsX4_measureLastWord := by decide +kernel
  have hk_21 := hts (.fieldLink RX4 21 "StenoRoom$Page" "bytes" "[B") (by decide +kernel)
  have hk_25 := hts (.fieldLink RX4 25 "StenoRoom$Page" "size" "I") (by decide +kernel)
  have hk_93 := hts (.fieldLink RX4 93 "StenoRoom$Page" "lastWordLength" "I") (by decide +kernel)
  have hk_100 := hts (.fieldLink RX4 100 "StenoRoom$Page" "lastWordVowels" "I") (by decide +kernel)
  have kb95 : ∀ (k27 : Int32 → Int32 → Int32 → Int32 → Option (Int32 × Int32)) (hk27 : ∀ (x2 : Int32) (x3 : Int32) (c_lastWordLength : Int32) (c_lastWordVowels : Int32) (H : Heap) (locs : List Loc) (ls : Array Slot), k27 x2 x3 c_lastWordLength c_lastWordVowels = some T → va_P E.1 vwCl (jw_Page_measureLastWord E q_this q_book q_bytes n_bytes c_size c_shift c_link c_lastWordLength c_lastWordVowels a_bytes) H → va_D A (jw_Page_measureLastWord E q_this q_book q_bytes n_bytes c_size c_shift c_link c_lastWordLength c_lastWordVowels a_bytes) → va_S A s.heap H locs → lv_has ls 4 [(0, .ref q_this), (2, .int x2), (3, .int x3)] → W p l e jr_Page_measureLastWord s m args below meth c H locs 0 0 Q (F0 m 27 ls [])) (x2 : Int32) (x3 : Int32) (c_lastWordLength : Int32) (c_lastWordVowels : Int32) (H : Heap) (locs : List Loc) (ls : Array Slot), jf_Page_measureLastWord_b95 k27 x2 x3 c_lastWordLength c_lastWordVowels = some T → va_P E.1 vwCl (jw_Page_measureLastWord E q_this q_book q_bytes n_bytes c_size c_shift c_link c_lastWordLength c_lastWordVowels a_bytes) H → va_D A (jw_Page_measureLastWord E q_this q_book q_bytes n_bytes c_size c_shift c_link c_lastWordLength c_lastWordVowels a_bytes) → va_S A s.heap H locs → lv_has ls 4 [(0, .ref q_this), (2, .int x2), (3, .int x3)] → W p l e jr_Page_measureLastWord s m args below meth c H locs 0 0 Q (F0 m 95 ls []) := by
    intro k27 hk27 x2 x3 c_lastWordLength c_lastWordVowels H locs ls h hP hD hS hl
    unfold jf_Page_measureLastWord_b95 at h
    refine lv_iinc (v := (x3 + (-1))) (lv' := [(3, .int (x3 + (-1))), (0, .ref q_this), (2, .int x2)]) hx hb dX4_measureLastWord_95 hl (k := 2) rfl rfl (by decide) rfl (fun ls hl => ?_)
    refine lv_goto (tgt := 27) hx hb dX4_measureLastWord_98 (by decide) ?_
    exact hk27 x2 (x3 + (-1)) c_lastWordLength c_lastWordVowels _ _ _ h hP hD hS (lv_sub hl [1, 2, 0] rfl)
  have kb60 : ∀ (k27 : Int32 → Int32 → Int32 → Int32 → Option (Int32 × Int32)) (hk27 : ∀ (x2 : Int32) (x3 : Int32) (c_lastWordLength : Int32) (c_lastWordVowels : Int32) (H : Heap) (locs : List Loc) (ls : Array Slot), k27 x2 x3 c_lastWordLength c_lastWordVowels = some T → va_P E.1 vwCl (jw_Page_measureLastWord E q_this q_book q_bytes n_bytes c_size c_shift c_link c_lastWordLength c_lastWordVowels a_bytes) H → va_D A (jw_Page_measureLastWord E q_this q_book q_bytes n_bytes c_size c_shift c_link c_lastWordLength c_lastWordVowels a_bytes) → va_S A s.heap H locs → lv_has ls 4 [(0, .ref q_this), (2, .int x2), (3, .int x3)] → W p l e jr_Page_measureLastWord s m args below meth c H locs 0 0 Q (F0 m 27 ls [])) (x2 : Int32) (x3 : Int32) (c_lastWordLength : Int32) (c_lastWordVowels : Int32) (H : Heap) (locs : List Loc) (ls : Array Slot), jf_Page_measureLastWord_b60 n_bytes a_bytes k27 x2 x3 c_lastWordLength c_lastWordVowels = some T → va_P E.1 vwCl (jw_Page_measureLastWord E q_this q_book q_bytes n_bytes c_size c_shift c_link c_lastWordLength c_lastWordVowels a_bytes) H → va_D A (jw_Page_measureLastWord E q_this q_book q_bytes n_bytes c_size c_shift c_link c_lastWordLength c_lastWordVowels a_bytes) → va_S A s.heap H locs → lv_has ls 4 [(0, .ref q_this), (2, .int x2), (3, .int x3)] → W p l e jr_Page_measureLastWord s m args below meth c H locs 0 0 Q (F0 m 60 ls []) := by
    intro k27 hk27 x2 x3 c_lastWordLength c_lastWordVowels H locs ls h hP hD hS hl
    unfold jf_Page_measureLastWord_b60 at h
    refine lv_aload_n hx hb dX4_measureLastWord_60 rfl (lv_at hl 0 rfl) ?_
    refine lv_dup hx hb dX4_measureLastWord_61 rfl ?_
    refine va_get (D := E.1) (ci := 4) (v := .int c_lastWordLength) (C := RX4) (T := TX4) (N := 7) hx hb hts hin4 hown hK.1 hP 0 rfl rfl 5 (by decide) hk_93 (fun _ h9 => h9) rfl dX4_measureLastWord_62 ?_
    refine lv_iconst (v := 1) hx hb dX4_measureLastWord_65 (by decide) ?_
    refine lv_iadd hx hb dX4_measureLastWord_66 ?_
    refine va_put (D := E.1) (ci := 4) (v := .int (c_lastWordLength + 1)) (ty := .int) (C := RX4) (T := TX4) (N := 7) hx hb hts hin4 tyX4 tyX4_ok nmX4 hown hK.1 hP hD hS 0 rfl rfl 5 (by decide) hk_93 (fun _ h9 => h9) rfl (by decide +kernel) rfl rfl (Nat.le_of_ble_eq_true rfl) dX4_measureLastWord_67 (fun H locs hP hD hS => ?_)
    replace hP : va_P E.1 vwCl (jw_Page_measureLastWord E q_this q_book q_bytes n_bytes c_size c_shift c_link (c_lastWordLength + 1) c_lastWordVowels a_bytes) H := hP
    replace hD : va_D A (jw_Page_measureLastWord E q_this q_book q_bytes n_bytes c_size c_shift c_link (c_lastWordLength + 1) c_lastWordVowels a_bytes) := hD
    refine lv_aload_n hx hb dX4_measureLastWord_70 rfl (lv_at hl 0 rfl) ?_
    refine va_get (D := E.1) (ci := 4) (v := .ref q_bytes) (C := RX4) (T := TX4) (N := 7) hx hb hts hin4 hown hK.1 hP 0 rfl rfl 1 (by decide) hk_21 (fun _ h9 => h9) rfl dX4_measureLastWord_71 ?_
    refine lv_iload_n hx hb dX4_measureLastWord_74 rfl (lv_at hl 2 rfl) ?_
    obtain ⟨g75, h⟩ := jga_e h
    refine va_bald hx hb hK.1 hP 1 0 rfl rfl g75 dX4_measureLastWord_75 ?_
    obtain ⟨r76, hf76, h⟩ := jbd h
    refine j_callNi (own := RX4) (As := [.int (a_bytes x3.toNatClampNeg)]) (rest := []) hx hb hml hown hts hK hA hP hD hS (jc_Room_smallOf l E (a_bytes x3.toNatClampNeg) N hf76) gX4_measureLastWord_X10_smallOf_n106 (by decide +kernel) (by decide +kernel) (by decide +kernel) rfl ⟨rfl, rfl⟩ 1 (by decide +kernel) rfl rfl [] [0, 1] [0, 1] rfl rfl rfl rfl rfl rfl rfl hl.1 rfl rfl dX4_measureLastWord_76 (fun H locs hP hD hS => ?_)
    replace hP : va_P E.1 vwCl (jw_Page_measureLastWord E q_this q_book q_bytes n_bytes c_size c_shift c_link (c_lastWordLength + 1) c_lastWordVowels a_bytes) H := hP
    replace hD : va_D A (jw_Page_measureLastWord E q_this q_book q_bytes n_bytes c_size c_shift c_link (c_lastWordLength + 1) c_lastWordVowels a_bytes) := hD
    obtain ⟨r79, hf79, h⟩ := jbd h
    refine j_callNi (own := RX4) (As := [.int r76]) (rest := []) hx hb hml hown hts hK hA hP hD hS (jc_Room_isVowel l E r76 N hf79) gX4_measureLastWord_X10_isVowel_n79 (by decide +kernel) (by decide +kernel) (by decide +kernel) rfl ⟨rfl, rfl⟩ 1 (by decide +kernel) rfl rfl [] [0, 1] [0, 1] rfl rfl rfl rfl rfl rfl rfl hl.1 rfl rfl dX4_measureLastWord_79 (fun H locs hP hD hS => ?_)
    replace hP : va_P E.1 vwCl (jw_Page_measureLastWord E q_this q_book q_bytes n_bytes c_size c_shift c_link (c_lastWordLength + 1) c_lastWordVowels a_bytes) H := hP
    replace hD : va_D A (jw_Page_measureLastWord E q_this q_book q_bytes n_bytes c_size c_shift c_link (c_lastWordLength + 1) c_lastWordVowels a_bytes) := hD
    refine lv_if_eq (tgt := 95) hx hb dX4_measureLastWord_82 (by decide) (fun hq82 => ?_) (fun hq82 => ?_)
    · replace h := jif_t hq82 h
      exact kb95 k27 hk27  x2 x3 (c_lastWordLength + 1) c_lastWordVowels _ _ _ h hP hD hS (lv_sub hl [0, 1, 2] rfl)
    · replace h := jif_f hq82 h
      refine lv_aload_n hx hb dX4_measureLastWord_85 rfl (lv_at hl 0 rfl) ?_
      refine lv_dup hx hb dX4_measureLastWord_86 rfl ?_
      refine va_get (D := E.1) (ci := 4) (v := .int c_lastWordVowels) (C := RX4) (T := TX4) (N := 7) hx hb hts hin4 hown hK.1 hP 0 rfl rfl 6 (by decide) hk_100 (fun _ h9 => h9) rfl dX4_measureLastWord_87 ?_
      refine lv_iconst (v := 1) hx hb dX4_measureLastWord_90 (by decide) ?_
      refine lv_iadd hx hb dX4_measureLastWord_91 ?_
      refine va_put (D := E.1) (ci := 4) (v := .int (c_lastWordVowels + 1)) (ty := .int) (C := RX4) (T := TX4) (N := 7) hx hb hts hin4 tyX4 tyX4_ok nmX4 hown hK.1 hP hD hS 0 rfl rfl 6 (by decide) hk_100 (fun _ h9 => h9) rfl (by decide +kernel) rfl rfl (Nat.le_of_ble_eq_true rfl) dX4_measureLastWord_92 (fun H locs hP hD hS => ?_)
      replace hP : va_P E.1 vwCl (jw_Page_measureLastWord E q_this q_book q_bytes n_bytes c_size c_shift c_link (c_lastWordLength + 1) (c_lastWordVowels + 1) a_bytes) H := hP
      replace hD : va_D A (jw_Page_measureLastWord E q_this q_book q_bytes n_bytes c_size c_shift c_link (c_lastWordLength + 1) (c_lastWordVowels + 1) a_bytes) := hD
      exact kb95 k27 hk27  x2 x3 (c_lastWordLength + 1) (c_lastWordVowels + 1) _ _ _ h hP hD hS (lv_sub hl [0, 1, 2] rfl)
  have kb27 : ∀ (n : Nat) (x2 : Int32) (x3 : Int32) (c_lastWordLength : Int32) (c_lastWordVowels : Int32) (H : Heap) (locs : List Loc) (ls : Array Slot), jf_Page_measureLastWord_b27 n_bytes a_bytes n x2 x3 c_lastWordLength c_lastWordVowels = some T → va_P E.1 vwCl (jw_Page_measureLastWord E q_this q_book q_bytes n_bytes c_size c_shift c_link c_lastWordLength c_lastWordVowels a_bytes) H → va_D A (jw_Page_measureLastWord E q_this q_book q_bytes n_bytes c_size c_shift c_link c_lastWordLength c_lastWordVowels a_bytes) → va_S A s.heap H locs → lv_has ls 4 [(0, .ref q_this), (2, .int x2), (3, .int x3)] → W p l e jr_Page_measureLastWord s m args below meth c H locs 0 0 Q (F0 m 27 ls []) := by
    intro n
    induction n with
    | zero => intro x2 x3 c_lastWordLength c_lastWordVowels H locs ls h; exact j_none (α := Int32 × Int32) h
    | succ n ih =>
      intro x2 x3 c_lastWordLength c_lastWordVowels H locs ls h hP hD hS hl
      rw [jf_Page_measureLastWord_b27] at h
      refine lv_iload_n hx hb dX4_measureLastWord_27 rfl (lv_at hl 2 rfl) ?_
      refine lv_if_lt (tgt := 101) hx hb dX4_measureLastWord_28 (by decide) (fun hq28 => ?_) (fun hq28 => ?_)
      · replace h := jif_t hq28 h
        exact j_vret (u := (c_lastWordLength, c_lastWordVowels)) (wv := (fun T => (jw_Page_measureLastWord E q_this q_book q_bytes n_bytes c_size c_shift c_link T.1 T.2 a_bytes))) h hQ hx hb hr hlocks hS hP hD dX4_measureLastWord_101
      · replace h := jif_f hq28 h
        refine lv_aload_n hx hb dX4_measureLastWord_31 rfl (lv_at hl 0 rfl) ?_
        refine va_get (D := E.1) (ci := 4) (v := .ref q_bytes) (C := RX4) (T := TX4) (N := 7) hx hb hts hin4 hown hK.1 hP 0 rfl rfl 1 (by decide) hk_21 (fun _ h9 => h9) rfl dX4_measureLastWord_32 ?_
        refine lv_iload_n hx hb dX4_measureLastWord_35 rfl (lv_at hl 2 rfl) ?_
        obtain ⟨g36, h⟩ := jga_e h
        refine va_bald hx hb hK.1 hP 1 0 rfl rfl g36 dX4_measureLastWord_36 ?_
        obtain ⟨r37, hf37, h⟩ := jbd h
        refine j_callNi (own := RX4) (As := [.int (a_bytes x3.toNatClampNeg)]) (rest := []) hx hb hml hown hts hK hA hP hD hS (jc_Room_isLetter l E (a_bytes x3.toNatClampNeg) N hf37) gX4_measureLastWord_X10_isLetter_n103 (by decide +kernel) (by decide +kernel) (by decide +kernel) rfl ⟨rfl, rfl⟩ 1 (by decide +kernel) rfl rfl [] [0, 1] [0, 1] rfl rfl rfl rfl rfl rfl rfl hl.1 rfl rfl dX4_measureLastWord_37 (fun H locs hP hD hS => ?_)
        replace hP : va_P E.1 vwCl (jw_Page_measureLastWord E q_this q_book q_bytes n_bytes c_size c_shift c_link c_lastWordLength c_lastWordVowels a_bytes) H := hP
        replace hD : va_D A (jw_Page_measureLastWord E q_this q_book q_bytes n_bytes c_size c_shift c_link c_lastWordLength c_lastWordVowels a_bytes) := hD
        refine lv_if_eq (tgt := 101) hx hb dX4_measureLastWord_40 (by decide) (fun hq40 => ?_) (fun hq40 => ?_)
        · replace h := jif_t hq40 h
          exact j_vret (u := (c_lastWordLength, c_lastWordVowels)) (wv := (fun T => (jw_Page_measureLastWord E q_this q_book q_bytes n_bytes c_size c_shift c_link T.1 T.2 a_bytes))) h hQ hx hb hr hlocks hS hP hD dX4_measureLastWord_101
        · replace h := jif_f hq40 h
          refine lv_aload_n hx hb dX4_measureLastWord_43 rfl (lv_at hl 0 rfl) ?_
          refine va_get (D := E.1) (ci := 4) (v := .int c_lastWordLength) (C := RX4) (T := TX4) (N := 7) hx hb hts hin4 hown hK.1 hP 0 rfl rfl 5 (by decide) hk_93 (fun _ h9 => h9) rfl dX4_measureLastWord_44 ?_
          refine lv_iconst (v := 3) hx hb dX4_measureLastWord_47 (by decide) ?_
          refine lv_icmp_lt (tgt := 60) hx hb dX4_measureLastWord_48 (by decide) (fun hq48 => ?_) (fun hq48 => ?_)
          · replace h := jif_t hq48 h
            exact kb60 (jf_Page_measureLastWord_b27 n_bytes a_bytes n) ih  x2 x3 c_lastWordLength c_lastWordVowels _ _ _ h hP hD hS (lv_sub hl [0, 1, 2] rfl)
          · replace h := jif_f hq48 h
            refine lv_aload_n hx hb dX4_measureLastWord_51 rfl (lv_at hl 0 rfl) ?_
            refine va_get (D := E.1) (ci := 4) (v := .int c_lastWordVowels) (C := RX4) (T := TX4) (N := 7) hx hb hts hin4 hown hK.1 hP 0 rfl rfl 6 (by decide) hk_100 (fun _ h9 => h9) rfl dX4_measureLastWord_52 ?_
            refine lv_iload_n hx hb dX4_measureLastWord_55 rfl (lv_at hl 1 rfl) ?_
            refine lv_icmp_lt (tgt := 60) hx hb dX4_measureLastWord_56 (by decide) (fun hq56 => ?_) (fun hq56 => ?_)
            · replace h := jif_t hq56 h
              exact kb60 (jf_Page_measureLastWord_b27 n_bytes a_bytes n) ih  x2 x3 c_lastWordLength c_lastWordVowels _ _ _ h hP hD hS (lv_sub hl [0, 1, 2] rfl)
            · replace h := jif_f hq56 h
              exact j_vret (u := (c_lastWordLength, c_lastWordVowels)) (wv := (fun T => (jw_Page_measureLastWord E q_this q_book q_bytes n_bytes c_size c_shift c_link T.1 T.2 a_bytes))) h hQ hx hb hr hlocks hS hP hD dX4_measureLastWord_59
  have kb9 : ∀ (z0 : Int32) (c_lastWordLength : Int32) (c_lastWordVowels : Int32) (H : Heap) (locs : List Loc) (ls : Array Slot), jf_Page_measureLastWord_b9 N n_bytes c_size a_bytes z0 c_lastWordLength c_lastWordVowels = some T → va_P E.1 vwCl (jw_Page_measureLastWord E q_this q_book q_bytes n_bytes c_size c_shift c_link c_lastWordLength c_lastWordVowels a_bytes) H → va_D A (jw_Page_measureLastWord E q_this q_book q_bytes n_bytes c_size c_shift c_link c_lastWordLength c_lastWordVowels a_bytes) → va_S A s.heap H locs → lv_has ls 4 [(0, .ref q_this)] → W p l e jr_Page_measureLastWord s m args below meth c H locs 0 0 Q (F0 m 9 ls [.int z0]) := by
    intro  z0 c_lastWordLength c_lastWordVowels H locs ls h hP hD hS hl
    unfold jf_Page_measureLastWord_b9 at h
    refine lv_istore_n (lv' := [(2, .int z0), (0, .ref q_this)]) hx hb dX4_measureLastWord_9 rfl hl (by decide) rfl (fun ls hl => ?_)
    refine lv_aload_n hx hb dX4_measureLastWord_10 rfl (lv_at hl 1 rfl) ?_
    refine lv_iconst (v := 0) hx hb dX4_measureLastWord_11 (by decide) ?_
    refine va_put (D := E.1) (ci := 4) (v := .int 0) (ty := .int) (C := RX4) (T := TX4) (N := 7) hx hb hts hin4 tyX4 tyX4_ok nmX4 hown hK.1 hP hD hS 0 rfl rfl 5 (by decide) hk_93 (fun _ h9 => h9) rfl (by decide +kernel) rfl rfl (Nat.le_of_ble_eq_true rfl) dX4_measureLastWord_12 (fun H locs hP hD hS => ?_)
    replace hP : va_P E.1 vwCl (jw_Page_measureLastWord E q_this q_book q_bytes n_bytes c_size c_shift c_link 0 c_lastWordVowels a_bytes) H := hP
    replace hD : va_D A (jw_Page_measureLastWord E q_this q_book q_bytes n_bytes c_size c_shift c_link 0 c_lastWordVowels a_bytes) := hD
    refine lv_aload_n hx hb dX4_measureLastWord_15 rfl (lv_at hl 1 rfl) ?_
    refine lv_iconst (v := 0) hx hb dX4_measureLastWord_16 (by decide) ?_
    refine va_put (D := E.1) (ci := 4) (v := .int 0) (ty := .int) (C := RX4) (T := TX4) (N := 7) hx hb hts hin4 tyX4 tyX4_ok nmX4 hown hK.1 hP hD hS 0 rfl rfl 6 (by decide) hk_100 (fun _ h9 => h9) rfl (by decide +kernel) rfl rfl (Nat.le_of_ble_eq_true rfl) dX4_measureLastWord_17 (fun H locs hP hD hS => ?_)
    replace hP : va_P E.1 vwCl (jw_Page_measureLastWord E q_this q_book q_bytes n_bytes c_size c_shift c_link 0 0 a_bytes) H := hP
    replace hD : va_D A (jw_Page_measureLastWord E q_this q_book q_bytes n_bytes c_size c_shift c_link 0 0 a_bytes) := hD
    refine lv_aload_n hx hb dX4_measureLastWord_20 rfl (lv_at hl 1 rfl) ?_
    refine va_get (D := E.1) (ci := 4) (v := .int c_size) (C := RX4) (T := TX4) (N := 7) hx hb hts hin4 hown hK.1 hP 0 rfl rfl 2 (by decide) hk_25 (fun _ h9 => h9) rfl dX4_measureLastWord_21 ?_
    refine lv_iconst (v := 1) hx hb dX4_measureLastWord_24 (by decide) ?_
    refine lv_isub hx hb dX4_measureLastWord_25 ?_
    refine lv_istore_n (lv' := [(3, .int (c_size - 1)), (2, .int z0), (0, .ref q_this)]) hx hb dX4_measureLastWord_26 rfl hl (by decide) rfl (fun ls hl => ?_)
    exact kb27  N z0 (c_size - 1) 0 0 _ _ _ h hP hD hS (lv_sub hl [2, 1, 0] rfl)
  unfold jf_Page_measureLastWord at h
  refine lv_iload_n hx hb dX4_measureLastWord_0 rfl (lv_at hl 1 rfl) ?_
  refine lv_if_eq (tgt := 8) hx hb dX4_measureLastWord_1 (by decide) (fun hq1 => ?_) (fun hq1 => ?_)
  · replace h := jif_t hq1 h
    refine lv_iconst (v := 0) hx hb dX4_measureLastWord_8 (by decide) ?_
    exact kb9   0 c_lastWordLength c_lastWordVowels _ _ _ h hP hD hS (lv_sub hl [0] rfl)
  · replace h := jif_f hq1 h
    refine lv_iconst (v := 2) hx hb dX4_measureLastWord_4 (by decide) ?_
    refine lv_goto (tgt := 9) hx hb dX4_measureLastWord_5 (by decide) ?_
    exact kb9   2 c_lastWordLength c_lastWordVowels _ _ _ h hP hD hS (lv_sub hl [0] rfl)
abbrev jw_Page_smallFromEnd (E : jE) (q_this q_book q_bytes : Nat) (n_bytes : Nat) (c_size : Int32) (c_shift : Int32) (c_link : Int32) (c_lastWordLength : Int32) (c_lastWordVowels : Int32) (a_bytes : (Nat → Int32)) : va_W := [(q_this, .inr (4, [.ref q_book, .ref q_bytes, .int c_size, .int c_shift, .int c_link, .int c_lastWordLength, .int c_lastWordVowels])), (q_bytes, .inl (E.2.1, n_bytes, .inl a_bytes))]
def jr_Page_smallFromEnd : Room := { frames := 1, cells := 0, slots := 0, locals := 20 }
set_option maxHeartbeats 4000000 in
set_option maxRecDepth 100000 in
theorem jc_Page_smallFromEnd (l : Launch) (E : jE) (q_this q_book q_bytes : Nat) (n_bytes : Nat) (c_size : Int32) (c_shift : Int32) (c_link : Int32) (c_lastWordLength : Int32) (c_lastWordVowels : Int32) (a_bytes : (Nat → Int32)) (x1 : Int32) (N : Nat) {T : Int32} (h : jf_Page_smallFromEnd x1 n_bytes c_size c_lastWordLength a_bytes = some T) : jMi l yX4_smallFromEnd wsX4_smallFromEnd jr_Page_smallFromEnd E [.ref q_this, .int x1] (jw_Page_smallFromEnd E q_this q_book q_bytes n_bytes c_size c_shift c_link c_lastWordLength c_lastWordVowels a_bytes) (T) (jw_Page_smallFromEnd E q_this q_book q_bytes n_bytes c_size c_shift c_link c_lastWordLength c_lastWordVowels a_bytes) := by
  refine jMi.begin (cc := cX4_smallFromEnd) (maxL := 3) (ret := (some .int)) (by decide) rfl (Nat.le_of_ble_eq_true rfl) ?_
  intro p e s m args below meth c A ls Q hQ hx hb hr hml hown hlocks hts hK hA hP hD hS hl
  replace hown : s.vm.findClass RX4 = some m.cls := hown
  replace hl : lv_has ls 3 [(0, .ref q_this), (1, .int x1)] := hl
  have hin4 : ∀ w ∈ u_ws RX4 TX4 7, w ∈ wsX4_smallFromEnd := by decide +kernel
  have hk_21 := hts (.fieldLink RX4 21 "StenoRoom$Page" "bytes" "[B") (by decide +kernel)
  have hk_25 := hts (.fieldLink RX4 25 "StenoRoom$Page" "size" "I") (by decide +kernel)
  have hk_93 := hts (.fieldLink RX4 93 "StenoRoom$Page" "lastWordLength" "I") (by decide +kernel)
  unfold jf_Page_smallFromEnd at h
  refine lv_aload_n hx hb dX4_smallFromEnd_0 rfl (lv_at hl 0 rfl) ?_
  refine va_get (D := E.1) (ci := 4) (v := .int c_size) (C := RX4) (T := TX4) (N := 7) hx hb hts hin4 hown hK.1 hP 0 rfl rfl 2 (by decide) hk_25 (fun _ h9 => h9) rfl dX4_smallFromEnd_1 ?_
  refine lv_iconst (v := 1) hx hb dX4_smallFromEnd_4 (by decide) ?_
  refine lv_isub hx hb dX4_smallFromEnd_5 ?_
  refine lv_iload_n hx hb dX4_smallFromEnd_6 rfl (lv_at hl 1 rfl) ?_
  refine lv_isub hx hb dX4_smallFromEnd_7 ?_
  refine lv_istore_n (lv' := [(2, .int ((c_size - 1) - x1)), (0, .ref q_this), (1, .int x1)]) hx hb dX4_smallFromEnd_8 rfl hl (by decide) rfl (fun ls hl => ?_)
  refine lv_iload_n hx hb dX4_smallFromEnd_9 rfl (lv_at hl 2 rfl) ?_
  refine lv_aload_n hx hb dX4_smallFromEnd_10 rfl (lv_at hl 1 rfl) ?_
  refine va_get (D := E.1) (ci := 4) (v := .int c_lastWordLength) (C := RX4) (T := TX4) (N := 7) hx hb hts hin4 hown hK.1 hP 0 rfl rfl 5 (by decide) hk_93 (fun _ h9 => h9) rfl dX4_smallFromEnd_11 ?_
  refine lv_icmp_ge (tgt := 41) hx hb dX4_smallFromEnd_14 (by decide) (fun hq14 => ?_) (fun hq14 => ?_)
  · replace h := jif_t hq14 h
    refine lv_iconst (v := (-1)) hx hb dX4_smallFromEnd_41 (by decide) ?_
    exact j_iret (u := (-1)) (rv := (fun T => T)) (wv := (fun _ => (jw_Page_smallFromEnd E q_this q_book q_bytes n_bytes c_size c_shift c_link c_lastWordLength c_lastWordVowels a_bytes))) h hQ hx hb hr rfl hlocks hS hP hD dX4_smallFromEnd_42
  · replace h := jif_f hq14 h
    refine lv_iload_n hx hb dX4_smallFromEnd_17 rfl (lv_at hl 0 rfl) ?_
    refine lv_if_lt (tgt := 41) hx hb dX4_smallFromEnd_18 (by decide) (fun hq18 => ?_) (fun hq18 => ?_)
    · replace h := jif_t hq18 h
      refine lv_iconst (v := (-1)) hx hb dX4_smallFromEnd_41 (by decide) ?_
      exact j_iret (u := (-1)) (rv := (fun T => T)) (wv := (fun _ => (jw_Page_smallFromEnd E q_this q_book q_bytes n_bytes c_size c_shift c_link c_lastWordLength c_lastWordVowels a_bytes))) h hQ hx hb hr rfl hlocks hS hP hD dX4_smallFromEnd_42
    · replace h := jif_f hq18 h
      refine lv_iload_n hx hb dX4_smallFromEnd_21 rfl (lv_at hl 0 rfl) ?_
      refine lv_aload_n hx hb dX4_smallFromEnd_22 rfl (lv_at hl 1 rfl) ?_
      refine va_get (D := E.1) (ci := 4) (v := .int c_size) (C := RX4) (T := TX4) (N := 7) hx hb hts hin4 hown hK.1 hP 0 rfl rfl 2 (by decide) hk_25 (fun _ h9 => h9) rfl dX4_smallFromEnd_23 ?_
      refine lv_icmp_ge (tgt := 41) hx hb dX4_smallFromEnd_26 (by decide) (fun hq26 => ?_) (fun hq26 => ?_)
      · replace h := jif_t hq26 h
        refine lv_iconst (v := (-1)) hx hb dX4_smallFromEnd_41 (by decide) ?_
        exact j_iret (u := (-1)) (rv := (fun T => T)) (wv := (fun _ => (jw_Page_smallFromEnd E q_this q_book q_bytes n_bytes c_size c_shift c_link c_lastWordLength c_lastWordVowels a_bytes))) h hQ hx hb hr rfl hlocks hS hP hD dX4_smallFromEnd_42
      · replace h := jif_f hq26 h
        refine lv_aload_n hx hb dX4_smallFromEnd_29 rfl (lv_at hl 1 rfl) ?_
        refine va_get (D := E.1) (ci := 4) (v := .ref q_bytes) (C := RX4) (T := TX4) (N := 7) hx hb hts hin4 hown hK.1 hP 0 rfl rfl 1 (by decide) hk_21 (fun _ h9 => h9) rfl dX4_smallFromEnd_30 ?_
        refine lv_iload_n hx hb dX4_smallFromEnd_33 rfl (lv_at hl 0 rfl) ?_
        obtain ⟨g34, h⟩ := jga_e h
        refine va_bald hx hb hK.1 hP 1 0 rfl rfl g34 dX4_smallFromEnd_34 ?_
        obtain ⟨r35, hf35, h⟩ := jbd h
        refine j_callNi (own := RX4) (As := [.int (a_bytes ((c_size - 1) - x1).toNatClampNeg)]) (rest := []) hx hb hml hown hts hK hA hP hD hS (jc_Room_smallOf l E (a_bytes ((c_size - 1) - x1).toNatClampNeg) N hf35) gX4_smallFromEnd_X10_smallOf_n106 (by decide +kernel) (by decide +kernel) (by decide +kernel) rfl ⟨rfl, rfl⟩ 1 (by decide +kernel) rfl rfl [] [0, 1] [0, 1] rfl rfl rfl rfl rfl rfl rfl hl.1 rfl rfl dX4_smallFromEnd_35 (fun H locs hP hD hS => ?_)
        replace hP : va_P E.1 vwCl (jw_Page_smallFromEnd E q_this q_book q_bytes n_bytes c_size c_shift c_link c_lastWordLength c_lastWordVowels a_bytes) H := hP
        replace hD : va_D A (jw_Page_smallFromEnd E q_this q_book q_bytes n_bytes c_size c_shift c_link c_lastWordLength c_lastWordVowels a_bytes) := hD
        refine lv_goto (tgt := 42) hx hb dX4_smallFromEnd_38 (by decide) ?_
        exact j_iret (u := r35) (rv := (fun T => T)) (wv := (fun _ => (jw_Page_smallFromEnd E q_this q_book q_bytes n_bytes c_size c_shift c_link c_lastWordLength c_lastWordVowels a_bytes))) h hQ hx hb hr rfl hlocks hS hP hD dX4_smallFromEnd_42
abbrev jw_Page_hisses (E : jE) : va_W := []
def jr_Page_hisses : Room := { frames := 0, cells := 0, slots := 0, locals := 0 }
set_option maxHeartbeats 4000000 in
set_option maxRecDepth 100000 in
theorem jc_Page_hisses (l : Launch) (E : jE) (x0 : Int32) (x1 : Int32) (N : Nat) {T : Int32} (h : jf_Page_hisses x0 x1 = some T) : jMi l yX4_hisses wsX4_hisses jr_Page_hisses E [.int x0, .int x1] (jw_Page_hisses E) (T) (jw_Page_hisses E) := by
  refine jMi.begin (cc := cX4_hisses) (maxL := 3) (ret := (some .boolean)) (by decide) rfl (Nat.le_of_ble_eq_true rfl) ?_
  intro p e s m args below meth c A ls Q hQ hx hb hr hml hown hlocks hts hK hA hP hD hS hl
  replace hown : s.vm.findClass RX4 = some m.cls := hown
  replace hl : lv_has ls 3 [(0, .int x0), (1, .int x1)] := hl
  have kb23 : ∀ (z0 : Int32) (H : Heap) (locs : List Loc) (ls : Array Slot), jf_Page_hisses_b23 x0 z0 = some T → va_P E.1 vwCl (jw_Page_hisses E) H → va_D A (jw_Page_hisses E) → va_S A s.heap H locs → lv_has ls 3 [(0, .int x0)] → W p l e jr_Page_hisses s m args below meth c H locs 0 0 Q (F0 m 23 ls [.int z0]) := by
    intro  z0 H locs ls h hP hD hS hl
    unfold jf_Page_hisses_b23 at h
    refine lv_istore_n (lv' := [(2, .int z0), (0, .int x0)]) hx hb dX4_hisses_23 rfl hl (by decide) rfl (fun ls hl => ?_)
    refine lv_iload_n hx hb dX4_hisses_24 rfl (lv_at hl 1 rfl) ?_
    refine lv_bipush (v := 115) hx hb dX4_hisses_25 (by decide) ?_
    refine lv_icmp_eq (tgt := 46) hx hb dX4_hisses_27 (by decide) (fun hq27 => ?_) (fun hq27 => ?_)
    · replace h := jif_t hq27 h
      refine lv_iconst (v := 1) hx hb dX4_hisses_46 (by decide) ?_
      refine lv_goto (tgt := 51) hx hb dX4_hisses_47 (by decide) ?_
      exact j_iret (u := 1) (rv := (fun T => T)) (wv := (fun _ => (jw_Page_hisses E))) h hQ hx hb hr jb_1 hlocks hS hP hD dX4_hisses_51
    · replace h := jif_f hq27 h
      refine lv_iload_n hx hb dX4_hisses_30 rfl (lv_at hl 1 rfl) ?_
      refine lv_bipush (v := 120) hx hb dX4_hisses_31 (by decide) ?_
      refine lv_icmp_eq (tgt := 46) hx hb dX4_hisses_33 (by decide) (fun hq33 => ?_) (fun hq33 => ?_)
      · replace h := jif_t hq33 h
        refine lv_iconst (v := 1) hx hb dX4_hisses_46 (by decide) ?_
        refine lv_goto (tgt := 51) hx hb dX4_hisses_47 (by decide) ?_
        exact j_iret (u := 1) (rv := (fun T => T)) (wv := (fun _ => (jw_Page_hisses E))) h hQ hx hb hr jb_1 hlocks hS hP hD dX4_hisses_51
      · replace h := jif_f hq33 h
        refine lv_iload_n hx hb dX4_hisses_36 rfl (lv_at hl 1 rfl) ?_
        refine lv_bipush (v := 122) hx hb dX4_hisses_37 (by decide) ?_
        refine lv_icmp_eq (tgt := 46) hx hb dX4_hisses_39 (by decide) (fun hq39 => ?_) (fun hq39 => ?_)
        · replace h := jif_t hq39 h
          refine lv_iconst (v := 1) hx hb dX4_hisses_46 (by decide) ?_
          refine lv_goto (tgt := 51) hx hb dX4_hisses_47 (by decide) ?_
          exact j_iret (u := 1) (rv := (fun T => T)) (wv := (fun _ => (jw_Page_hisses E))) h hQ hx hb hr jb_1 hlocks hS hP hD dX4_hisses_51
        · replace h := jif_f hq39 h
          refine lv_iload_n hx hb dX4_hisses_42 rfl (lv_at hl 0 rfl) ?_
          refine lv_if_eq (tgt := 50) hx hb dX4_hisses_43 (by decide) (fun hq43 => ?_) (fun hq43 => ?_)
          · replace h := jif_t hq43 h
            refine lv_iconst (v := 0) hx hb dX4_hisses_50 (by decide) ?_
            exact j_iret (u := 0) (rv := (fun T => T)) (wv := (fun _ => (jw_Page_hisses E))) h hQ hx hb hr jb_0 hlocks hS hP hD dX4_hisses_51
          · replace h := jif_f hq43 h
            refine lv_iconst (v := 1) hx hb dX4_hisses_46 (by decide) ?_
            refine lv_goto (tgt := 51) hx hb dX4_hisses_47 (by decide) ?_
            exact j_iret (u := 1) (rv := (fun T => T)) (wv := (fun _ => (jw_Page_hisses E))) h hQ hx hb hr jb_1 hlocks hS hP hD dX4_hisses_51
  have kb22 : ∀ (H : Heap) (locs : List Loc) (ls : Array Slot), jf_Page_hisses_b22 x0 = some T → va_P E.1 vwCl (jw_Page_hisses E) H → va_D A (jw_Page_hisses E) → va_S A s.heap H locs → lv_has ls 3 [(0, .int x0)] → W p l e jr_Page_hisses s m args below meth c H locs 0 0 Q (F0 m 22 ls []) := by
    intro   H locs ls h hP hD hS hl
    unfold jf_Page_hisses_b22 at h
    refine lv_iconst (v := 0) hx hb dX4_hisses_22 (by decide) ?_
    exact kb23   0 _ _ _ h hP hD hS (lv_sub hl [0] rfl)
  have kb18 : ∀ (H : Heap) (locs : List Loc) (ls : Array Slot), jf_Page_hisses_b18 x0 = some T → va_P E.1 vwCl (jw_Page_hisses E) H → va_D A (jw_Page_hisses E) → va_S A s.heap H locs → lv_has ls 3 [(0, .int x0)] → W p l e jr_Page_hisses s m args below meth c H locs 0 0 Q (F0 m 18 ls []) := by
    intro   H locs ls h hP hD hS hl
    unfold jf_Page_hisses_b18 at h
    refine lv_iconst (v := 1) hx hb dX4_hisses_18 (by decide) ?_
    refine lv_goto (tgt := 23) hx hb dX4_hisses_19 (by decide) ?_
    exact kb23   1 _ _ _ h hP hD hS (lv_sub hl [0] rfl)
  unfold jf_Page_hisses at h
  refine lv_iload_n hx hb dX4_hisses_0 rfl (lv_at hl 0 rfl) ?_
  refine lv_bipush (v := 104) hx hb dX4_hisses_1 (by decide) ?_
  refine lv_icmp_ne (tgt := 22) hx hb dX4_hisses_3 (by decide) (fun hq3 => ?_) (fun hq3 => ?_)
  · replace h := jif_f hq3 h
    exact kb22    _ _ _ h hP hD hS (lv_sub hl [0] rfl)
  · replace h := jif_t hq3 h
    refine lv_iload_n hx hb dX4_hisses_6 rfl (lv_at hl 1 rfl) ?_
    refine lv_bipush (v := 99) hx hb dX4_hisses_7 (by decide) ?_
    refine lv_icmp_eq (tgt := 18) hx hb dX4_hisses_9 (by decide) (fun hq9 => ?_) (fun hq9 => ?_)
    · replace h := jif_t hq9 h
      exact kb18    _ _ _ h hP hD hS (lv_sub hl [0] rfl)
    · replace h := jif_f hq9 h
      refine lv_iload_n hx hb dX4_hisses_12 rfl (lv_at hl 1 rfl) ?_
      refine lv_bipush (v := 115) hx hb dX4_hisses_13 (by decide) ?_
      refine lv_icmp_ne (tgt := 22) hx hb dX4_hisses_15 (by decide) (fun hq15 => ?_) (fun hq15 => ?_)
      · replace h := jif_f hq15 h
        exact kb22    _ _ _ h hP hD hS (lv_sub hl [0] rfl)
      · replace h := jif_t hq15 h
        exact kb18    _ _ _ h hP hD hS (lv_sub hl [0] rfl)
abbrev jw_Page_ruleFor (E : jE) (q_this q_book q_bytes : Nat) (c_size : Int32) (c_shift : Int32) (c_link : Int32) (c_lastWordLength : Int32) (c_lastWordVowels : Int32) : va_W := [(q_this, .inr (4, [.ref q_book, .ref q_bytes, .int c_size, .int c_shift, .int c_link, .int c_lastWordLength, .int c_lastWordVowels]))]
def jr_Page_ruleFor : Room := { frames := 1, cells := 0, slots := 0, locals := 22 }
set_option maxHeartbeats 4000000 in
set_option maxRecDepth 100000 in
theorem jc_Page_ruleFor (l : Launch) (E : jE) (q_this q_book q_bytes : Nat) (c_size : Int32) (c_shift : Int32) (c_link : Int32) (c_lastWordLength : Int32) (c_lastWordVowels : Int32) (x1 : Int32) (x2 : Int32) (x3 : Int32) (x4 : Int32) (N : Nat) {T : Int32} (h : jf_Page_ruleFor x1 x2 x3 x4 c_lastWordLength c_lastWordVowels = some T) : jMi l yX4_ruleFor wsX4_ruleFor jr_Page_ruleFor E [.ref q_this, .int x1, .int x2, .int x3, .int x4] (jw_Page_ruleFor E q_this q_book q_bytes c_size c_shift c_link c_lastWordLength c_lastWordVowels) (T) (jw_Page_ruleFor E q_this q_book q_bytes c_size c_shift c_link c_lastWordLength c_lastWordVowels) := by
  refine jMi.begin (cc := cX4_ruleFor) (maxL := 6) (ret := (some .int)) (by decide) rfl (Nat.le_of_ble_eq_true rfl) ?_
  intro p e s m args below meth c A ls Q hQ hx hb hr hml hown hlocks hts hK hA hP hD hS hl
  replace hown : s.vm.findClass RX4 = some m.cls := hown
  replace hl : lv_has ls 6 [(0, .ref q_this), (1, .int x1), (2, .int x2), (3, .int x3), (4, .int x4)] := hl
  have hin4 : ∀ w ∈ u_ws RX4 TX4 7, w ∈ wsX4_ruleFor := by decide +kernel
  have hk_93 := hts (.fieldLink RX4 93 "StenoRoom$Page" "lastWordLength" "I") (by decide +kernel)
  have hk_100 := hts (.fieldLink RX4 100 "StenoRoom$Page" "lastWordVowels" "I") (by decide +kernel)
  have kb110 : ∀ (z0 : Int32) (H : Heap) (locs : List Loc) (ls : Array Slot), jf_Page_ruleFor_b110 x2 c_lastWordLength c_lastWordVowels z0 = some T → va_P E.1 vwCl (jw_Page_ruleFor E q_this q_book q_bytes c_size c_shift c_link c_lastWordLength c_lastWordVowels) H → va_D A (jw_Page_ruleFor E q_this q_book q_bytes c_size c_shift c_link c_lastWordLength c_lastWordVowels) → va_S A s.heap H locs → lv_has ls 6 [(0, .ref q_this), (2, .int x2)] → W p l e jr_Page_ruleFor s m args below meth c H locs 0 0 Q (F0 m 110 ls [.int z0]) := by
    intro  z0 H locs ls h hP hD hS hl
    unfold jf_Page_ruleFor_b110 at h
    refine lv_istore (lv' := [(5, .int z0), (0, .ref q_this), (2, .int x2)]) hx hb dX4_ruleFor_110 hl (by decide) rfl (fun ls hl => ?_)
    refine lv_aload_n hx hb dX4_ruleFor_112 rfl (lv_at hl 1 rfl) ?_
    refine va_get (D := E.1) (ci := 4) (v := .int c_lastWordLength) (C := RX4) (T := TX4) (N := 7) hx hb hts hin4 hown hK.1 hP 0 rfl rfl 5 (by decide) hk_93 (fun _ h9 => h9) rfl dX4_ruleFor_113 ?_
    refine lv_iconst (v := 3) hx hb dX4_ruleFor_116 (by decide) ?_
    refine lv_icmp_lt (tgt := 142) hx hb dX4_ruleFor_117 (by decide) (fun hq117 => ?_) (fun hq117 => ?_)
    · replace h := jif_t hq117 h
      refine lv_iconst (v := 0) hx hb dX4_ruleFor_142 (by decide) ?_
      exact j_iret (u := 0) (rv := (fun T => T)) (wv := (fun _ => (jw_Page_ruleFor E q_this q_book q_bytes c_size c_shift c_link c_lastWordLength c_lastWordVowels))) h hQ hx hb hr rfl hlocks hS hP hD dX4_ruleFor_143
    · replace h := jif_f hq117 h
      refine lv_iload hx hb dX4_ruleFor_120 (lv_at hl 0 rfl) ?_
      refine lv_if_ne (tgt := 142) hx hb dX4_ruleFor_122 (by decide) (fun hq122 => ?_) (fun hq122 => ?_)
      · replace h := jif_f hq122 h
        refine lv_iconst (v := 0) hx hb dX4_ruleFor_142 (by decide) ?_
        exact j_iret (u := 0) (rv := (fun T => T)) (wv := (fun _ => (jw_Page_ruleFor E q_this q_book q_bytes c_size c_shift c_link c_lastWordLength c_lastWordVowels))) h hQ hx hb hr rfl hlocks hS hP hD dX4_ruleFor_143
      · replace h := jif_t hq122 h
        refine lv_iload_n hx hb dX4_ruleFor_125 rfl (lv_at hl 2 rfl) ?_
        obtain ⟨r126, hf126, h⟩ := jbd h
        refine j_callNi (own := RX4) (As := [.int x2]) (rest := []) hx hb hml hown hts hK hA hP hD hS (jc_Room_isVowel l E x2 N hf126) gX4_ruleFor_X10_isVowel_n79 (by decide +kernel) (by decide +kernel) (by decide +kernel) rfl ⟨rfl, rfl⟩ 1 (by decide +kernel) rfl rfl [] [0] [0] rfl rfl rfl rfl rfl rfl rfl hl.1 rfl rfl dX4_ruleFor_126 (fun H locs hP hD hS => ?_)
        replace hP : va_P E.1 vwCl (jw_Page_ruleFor E q_this q_book q_bytes c_size c_shift c_link c_lastWordLength c_lastWordVowels) H := hP
        replace hD : va_D A (jw_Page_ruleFor E q_this q_book q_bytes c_size c_shift c_link c_lastWordLength c_lastWordVowels) := hD
        refine lv_if_eq (tgt := 142) hx hb dX4_ruleFor_129 (by decide) (fun hq129 => ?_) (fun hq129 => ?_)
        · replace h := jif_t hq129 h
          refine lv_iconst (v := 0) hx hb dX4_ruleFor_142 (by decide) ?_
          exact j_iret (u := 0) (rv := (fun T => T)) (wv := (fun _ => (jw_Page_ruleFor E q_this q_book q_bytes c_size c_shift c_link c_lastWordLength c_lastWordVowels))) h hQ hx hb hr rfl hlocks hS hP hD dX4_ruleFor_143
        · replace h := jif_f hq129 h
          refine lv_aload_n hx hb dX4_ruleFor_132 rfl (lv_at hl 1 rfl) ?_
          refine va_get (D := E.1) (ci := 4) (v := .int c_lastWordVowels) (C := RX4) (T := TX4) (N := 7) hx hb hts hin4 hown hK.1 hP 0 rfl rfl 6 (by decide) hk_100 (fun _ h9 => h9) rfl dX4_ruleFor_133 ?_
          refine lv_iconst (v := 1) hx hb dX4_ruleFor_136 (by decide) ?_
          refine lv_icmp_ne (tgt := 142) hx hb dX4_ruleFor_137 (by decide) (fun hq137 => ?_) (fun hq137 => ?_)
          · replace h := jif_f hq137 h
            refine lv_iconst (v := 0) hx hb dX4_ruleFor_142 (by decide) ?_
            exact j_iret (u := 0) (rv := (fun T => T)) (wv := (fun _ => (jw_Page_ruleFor E q_this q_book q_bytes c_size c_shift c_link c_lastWordLength c_lastWordVowels))) h hQ hx hb hr rfl hlocks hS hP hD dX4_ruleFor_143
          · replace h := jif_t hq137 h
            refine lv_iconst (v := 4) hx hb dX4_ruleFor_140 (by decide) ?_
            exact j_iret (u := 4) (rv := (fun T => T)) (wv := (fun _ => (jw_Page_ruleFor E q_this q_book q_bytes c_size c_shift c_link c_lastWordLength c_lastWordVowels))) h hQ hx hb hr rfl hlocks hS hP hD dX4_ruleFor_141
  have kb105 : ∀ (H : Heap) (locs : List Loc) (ls : Array Slot), jf_Page_ruleFor_b105 x2 c_lastWordLength c_lastWordVowels = some T → va_P E.1 vwCl (jw_Page_ruleFor E q_this q_book q_bytes c_size c_shift c_link c_lastWordLength c_lastWordVowels) H → va_D A (jw_Page_ruleFor E q_this q_book q_bytes c_size c_shift c_link c_lastWordLength c_lastWordVowels) → va_S A s.heap H locs → lv_has ls 6 [(0, .ref q_this), (2, .int x2)] → W p l e jr_Page_ruleFor s m args below meth c H locs 0 0 Q (F0 m 105 ls []) := by
    intro   H locs ls h hP hD hS hl
    unfold jf_Page_ruleFor_b105 at h
    refine lv_iconst (v := 1) hx hb dX4_ruleFor_105 (by decide) ?_
    refine lv_goto (tgt := 110) hx hb dX4_ruleFor_106 (by decide) ?_
    exact kb110   1 _ _ _ h hP hD hS (lv_sub hl [0, 1] rfl)
  have kb87 : ∀ (H : Heap) (locs : List Loc) (ls : Array Slot), jf_Page_ruleFor_b87 x1 x2 c_lastWordLength c_lastWordVowels = some T → va_P E.1 vwCl (jw_Page_ruleFor E q_this q_book q_bytes c_size c_shift c_link c_lastWordLength c_lastWordVowels) H → va_D A (jw_Page_ruleFor E q_this q_book q_bytes c_size c_shift c_link c_lastWordLength c_lastWordVowels) → va_S A s.heap H locs → lv_has ls 6 [(0, .ref q_this), (1, .int x1), (2, .int x2)] → W p l e jr_Page_ruleFor s m args below meth c H locs 0 0 Q (F0 m 87 ls []) := by
    intro   H locs ls h hP hD hS hl
    unfold jf_Page_ruleFor_b87 at h
    refine lv_iload_n hx hb dX4_ruleFor_87 rfl (lv_at hl 1 rfl) ?_
    refine lv_bipush (v := 119) hx hb dX4_ruleFor_88 (by decide) ?_
    refine lv_icmp_eq (tgt := 105) hx hb dX4_ruleFor_90 (by decide) (fun hq90 => ?_) (fun hq90 => ?_)
    · replace h := jif_t hq90 h
      exact kb105    _ _ _ h hP hD hS (lv_sub hl [0, 2] rfl)
    · replace h := jif_f hq90 h
      refine lv_iload_n hx hb dX4_ruleFor_93 rfl (lv_at hl 1 rfl) ?_
      refine lv_bipush (v := 120) hx hb dX4_ruleFor_94 (by decide) ?_
      refine lv_icmp_eq (tgt := 105) hx hb dX4_ruleFor_96 (by decide) (fun hq96 => ?_) (fun hq96 => ?_)
      · replace h := jif_t hq96 h
        exact kb105    _ _ _ h hP hD hS (lv_sub hl [0, 2] rfl)
      · replace h := jif_f hq96 h
        refine lv_iload_n hx hb dX4_ruleFor_99 rfl (lv_at hl 1 rfl) ?_
        refine lv_bipush (v := 121) hx hb dX4_ruleFor_100 (by decide) ?_
        refine lv_icmp_ne (tgt := 109) hx hb dX4_ruleFor_102 (by decide) (fun hq102 => ?_) (fun hq102 => ?_)
        · replace h := jif_f hq102 h
          refine lv_iconst (v := 0) hx hb dX4_ruleFor_109 (by decide) ?_
          exact kb110   0 _ _ _ h hP hD hS (lv_sub hl [0, 2] rfl)
        · replace h := jif_t hq102 h
          exact kb105    _ _ _ h hP hD hS (lv_sub hl [0, 2] rfl)
  have kb44 : ∀ (H : Heap) (locs : List Loc) (ls : Array Slot), jf_Page_ruleFor_b44 x1 x2 x3 c_lastWordLength c_lastWordVowels = some T → va_P E.1 vwCl (jw_Page_ruleFor E q_this q_book q_bytes c_size c_shift c_link c_lastWordLength c_lastWordVowels) H → va_D A (jw_Page_ruleFor E q_this q_book q_bytes c_size c_shift c_link c_lastWordLength c_lastWordVowels) → va_S A s.heap H locs → lv_has ls 6 [(0, .ref q_this), (1, .int x1), (2, .int x2), (3, .int x3)] → W p l e jr_Page_ruleFor s m args below meth c H locs 0 0 Q (F0 m 44 ls []) := by
    intro   H locs ls h hP hD hS hl
    unfold jf_Page_ruleFor_b44 at h
    refine lv_iload_n hx hb dX4_ruleFor_44 rfl (lv_at hl 3 rfl) ?_
    obtain ⟨r45, hf45, h⟩ := jbd h
    refine j_callNi (own := RX4) (As := [.int x3]) (rest := []) hx hb hml hown hts hK hA hP hD hS (jc_Room_isVowel l E x3 N hf45) gX4_ruleFor_X10_isVowel_n79 (by decide +kernel) (by decide +kernel) (by decide +kernel) rfl ⟨rfl, rfl⟩ 1 (by decide +kernel) rfl rfl [] [0] [0] rfl rfl rfl rfl rfl rfl rfl hl.1 rfl rfl dX4_ruleFor_45 (fun H locs hP hD hS => ?_)
    replace hP : va_P E.1 vwCl (jw_Page_ruleFor E q_this q_book q_bytes c_size c_shift c_link c_lastWordLength c_lastWordVowels) H := hP
    replace hD : va_D A (jw_Page_ruleFor E q_this q_book q_bytes c_size c_shift c_link c_lastWordLength c_lastWordVowels) := hD
    refine lv_if_ne (tgt := 53) hx hb dX4_ruleFor_48 (by decide) (fun hq48 => ?_) (fun hq48 => ?_)
    · replace h := jif_f hq48 h
      refine lv_iload_n hx hb dX4_ruleFor_53 rfl (lv_at hl 1 rfl) ?_
      refine lv_bipush (v := 101) hx hb dX4_ruleFor_54 (by decide) ?_
      refine lv_icmp_ne (tgt := 87) hx hb dX4_ruleFor_56 (by decide) (fun hq56 => ?_) (fun hq56 => ?_)
      · replace h := jif_f hq56 h
        exact kb87    _ _ _ h hP hD hS (lv_sub hl [0, 1, 2] rfl)
      · replace h := jif_t hq56 h
        refine lv_aload_n hx hb dX4_ruleFor_59 rfl (lv_at hl 0 rfl) ?_
        refine va_get (D := E.1) (ci := 4) (v := .int c_lastWordLength) (C := RX4) (T := TX4) (N := 7) hx hb hts hin4 hown hK.1 hP 0 rfl rfl 5 (by decide) hk_93 (fun _ h9 => h9) rfl dX4_ruleFor_60 ?_
        refine lv_iconst (v := 2) hx hb dX4_ruleFor_63 (by decide) ?_
        refine lv_icmp_lt (tgt := 87) hx hb dX4_ruleFor_64 (by decide) (fun hq64 => ?_) (fun hq64 => ?_)
        · replace h := jif_t hq64 h
          exact kb87    _ _ _ h hP hD hS (lv_sub hl [0, 1, 2] rfl)
        · replace h := jif_f hq64 h
          refine lv_iload_n hx hb dX4_ruleFor_67 rfl (lv_at hl 2 rfl) ?_
          refine lv_bipush (v := 101) hx hb dX4_ruleFor_68 (by decide) ?_
          refine lv_icmp_eq (tgt := 87) hx hb dX4_ruleFor_70 (by decide) (fun hq70 => ?_) (fun hq70 => ?_)
          · replace h := jif_t hq70 h
            exact kb87    _ _ _ h hP hD hS (lv_sub hl [0, 1, 2] rfl)
          · replace h := jif_f hq70 h
            refine lv_iload_n hx hb dX4_ruleFor_73 rfl (lv_at hl 2 rfl) ?_
            refine lv_bipush (v := 111) hx hb dX4_ruleFor_74 (by decide) ?_
            refine lv_icmp_eq (tgt := 87) hx hb dX4_ruleFor_76 (by decide) (fun hq76 => ?_) (fun hq76 => ?_)
            · replace h := jif_t hq76 h
              exact kb87    _ _ _ h hP hD hS (lv_sub hl [0, 1, 2] rfl)
            · replace h := jif_f hq76 h
              refine lv_iload_n hx hb dX4_ruleFor_79 rfl (lv_at hl 2 rfl) ?_
              refine lv_bipush (v := 121) hx hb dX4_ruleFor_80 (by decide) ?_
              refine lv_icmp_eq (tgt := 87) hx hb dX4_ruleFor_82 (by decide) (fun hq82 => ?_) (fun hq82 => ?_)
              · replace h := jif_t hq82 h
                exact kb87    _ _ _ h hP hD hS (lv_sub hl [0, 1, 2] rfl)
              · replace h := jif_f hq82 h
                refine lv_iconst (v := 3) hx hb dX4_ruleFor_85 (by decide) ?_
                exact j_iret (u := 3) (rv := (fun T => T)) (wv := (fun _ => (jw_Page_ruleFor E q_this q_book q_bytes c_size c_shift c_link c_lastWordLength c_lastWordVowels))) h hQ hx hb hr rfl hlocks hS hP hD dX4_ruleFor_86
    · replace h := jif_t hq48 h
      refine lv_iconst (v := 0) hx hb dX4_ruleFor_51 (by decide) ?_
      exact j_iret (u := 0) (rv := (fun T => T)) (wv := (fun _ => (jw_Page_ruleFor E q_this q_book q_bytes c_size c_shift c_link c_lastWordLength c_lastWordVowels))) h hQ hx hb hr rfl hlocks hS hP hD dX4_ruleFor_52
  have kb29 : ∀ (H : Heap) (locs : List Loc) (ls : Array Slot), jf_Page_ruleFor_b29 x1 x2 x3 x4 c_lastWordLength c_lastWordVowels = some T → va_P E.1 vwCl (jw_Page_ruleFor E q_this q_book q_bytes c_size c_shift c_link c_lastWordLength c_lastWordVowels) H → va_D A (jw_Page_ruleFor E q_this q_book q_bytes c_size c_shift c_link c_lastWordLength c_lastWordVowels) → va_S A s.heap H locs → lv_has ls 6 [(0, .ref q_this), (1, .int x1), (2, .int x2), (3, .int x3), (4, .int x4)] → W p l e jr_Page_ruleFor s m args below meth c H locs 0 0 Q (F0 m 29 ls []) := by
    intro   H locs ls h hP hD hS hl
    unfold jf_Page_ruleFor_b29 at h
    refine lv_iload hx hb dX4_ruleFor_29 (lv_at hl 4 rfl) ?_
    refine lv_if_eq (tgt := 44) hx hb dX4_ruleFor_31 (by decide) (fun hq31 => ?_) (fun hq31 => ?_)
    · replace h := jif_t hq31 h
      exact kb44    _ _ _ h hP hD hS (lv_sub hl [0, 1, 2, 3] rfl)
    · replace h := jif_f hq31 h
      refine lv_iload_n hx hb dX4_ruleFor_34 rfl (lv_at hl 1 rfl) ?_
      refine lv_iload_n hx hb dX4_ruleFor_35 rfl (lv_at hl 2 rfl) ?_
      obtain ⟨r36, hf36, h⟩ := jbd h
      refine j_callSi (own := RX4) (As := [.int x1, .int x2]) (rest := []) hx hb hml hown hts hK hA hP hD hS (jc_Page_hisses l E x1 x2 N hf36) gX4_ruleFor_X4_hisses rfl ⟨rfl, rfl⟩ 2 (by decide +kernel) rfl rfl [] [0] [0] rfl rfl rfl rfl rfl rfl rfl hl.1 rfl rfl dX4_ruleFor_36 (fun H locs hP hD hS => ?_)
      replace hP : va_P E.1 vwCl (jw_Page_ruleFor E q_this q_book q_bytes c_size c_shift c_link c_lastWordLength c_lastWordVowels) H := hP
      replace hD : va_D A (jw_Page_ruleFor E q_this q_book q_bytes c_size c_shift c_link c_lastWordLength c_lastWordVowels) := hD
      refine lv_if_eq (tgt := 44) hx hb dX4_ruleFor_39 (by decide) (fun hq39 => ?_) (fun hq39 => ?_)
      · replace h := jif_t hq39 h
        exact kb44    _ _ _ h hP hD hS (lv_sub hl [0, 1, 2, 3] rfl)
      · replace h := jif_f hq39 h
        refine lv_iconst (v := 2) hx hb dX4_ruleFor_42 (by decide) ?_
        exact j_iret (u := 2) (rv := (fun T => T)) (wv := (fun _ => (jw_Page_ruleFor E q_this q_book q_bytes c_size c_shift c_link c_lastWordLength c_lastWordVowels))) h hQ hx hb hr rfl hlocks hS hP hD dX4_ruleFor_43
  unfold jf_Page_ruleFor at h
  refine lv_iload_n hx hb dX4_ruleFor_0 rfl (lv_at hl 1 rfl) ?_
  refine lv_bipush (v := 121) hx hb dX4_ruleFor_1 (by decide) ?_
  refine lv_icmp_ne (tgt := 29) hx hb dX4_ruleFor_3 (by decide) (fun hq3 => ?_) (fun hq3 => ?_)
  · replace h := jif_f hq3 h
    exact kb29    _ _ _ h hP hD hS (lv_sub hl [0, 1, 2, 3, 4] rfl)
  · replace h := jif_t hq3 h
    refine lv_aload_n hx hb dX4_ruleFor_6 rfl (lv_at hl 0 rfl) ?_
    refine va_get (D := E.1) (ci := 4) (v := .int c_lastWordLength) (C := RX4) (T := TX4) (N := 7) hx hb hts hin4 hown hK.1 hP 0 rfl rfl 5 (by decide) hk_93 (fun _ h9 => h9) rfl dX4_ruleFor_7 ?_
    refine lv_iconst (v := 2) hx hb dX4_ruleFor_10 (by decide) ?_
    refine lv_icmp_lt (tgt := 29) hx hb dX4_ruleFor_11 (by decide) (fun hq11 => ?_) (fun hq11 => ?_)
    · replace h := jif_t hq11 h
      exact kb29    _ _ _ h hP hD hS (lv_sub hl [0, 1, 2, 3, 4] rfl)
    · replace h := jif_f hq11 h
      refine lv_iload_n hx hb dX4_ruleFor_14 rfl (lv_at hl 2 rfl) ?_
      obtain ⟨r15, hf15, h⟩ := jbd h
      refine j_callNi (own := RX4) (As := [.int x2]) (rest := []) hx hb hml hown hts hK hA hP hD hS (jc_Room_isVowel l E x2 N hf15) gX4_ruleFor_X10_isVowel_n79 (by decide +kernel) (by decide +kernel) (by decide +kernel) rfl ⟨rfl, rfl⟩ 1 (by decide +kernel) rfl rfl [] [0] [0] rfl rfl rfl rfl rfl rfl rfl hl.1 rfl rfl dX4_ruleFor_15 (fun H locs hP hD hS => ?_)
      replace hP : va_P E.1 vwCl (jw_Page_ruleFor E q_this q_book q_bytes c_size c_shift c_link c_lastWordLength c_lastWordVowels) H := hP
      replace hD : va_D A (jw_Page_ruleFor E q_this q_book q_bytes c_size c_shift c_link c_lastWordLength c_lastWordVowels) := hD
      refine lv_if_ne (tgt := 29) hx hb dX4_ruleFor_18 (by decide) (fun hq18 => ?_) (fun hq18 => ?_)
      · replace h := jif_f hq18 h
        exact kb29    _ _ _ h hP hD hS (lv_sub hl [0, 1, 2, 3, 4] rfl)
      · replace h := jif_t hq18 h
        refine lv_iload_n hx hb dX4_ruleFor_21 rfl (lv_at hl 3 rfl) ?_
        refine lv_bipush (v := 105) hx hb dX4_ruleFor_22 (by decide) ?_
        refine lv_icmp_eq (tgt := 29) hx hb dX4_ruleFor_24 (by decide) (fun hq24 => ?_) (fun hq24 => ?_)
        · replace h := jif_t hq24 h
          exact kb29    _ _ _ h hP hD hS (lv_sub hl [0, 1, 2, 3, 4] rfl)
        · replace h := jif_f hq24 h
          refine lv_iconst (v := 1) hx hb dX4_ruleFor_27 (by decide) ?_
          exact j_iret (u := 1) (rv := (fun T => T)) (wv := (fun _ => (jw_Page_ruleFor E q_this q_book q_bytes c_size c_shift c_link c_lastWordLength c_lastWordVowels))) h hQ hx hb hr rfl hlocks hS hP hD dX4_ruleFor_28
abbrev jw_Page_joinSuffix (E : jE) (q_this q_book q_bytes q_book_kinds q_book_strokeCounts q_book_strokes q_book_lengths q_book_letters : Nat) (n_bytes : Nat) (c_size : Int32) (c_shift : Int32) (c_link : Int32) (c_lastWordLength : Int32) (c_lastWordVowels : Int32) (c_book_size : Int32) (a_book_lengths : (Nat → Int32)) (a_book_letters : (Nat → Int32)) (a_bytes : (Nat → Int32)) : va_W := [(q_this, .inr (4, [.ref q_book, .ref q_bytes, .int c_size, .int c_shift, .int c_link, .int c_lastWordLength, .int c_lastWordVowels])), (q_book, .inr (0, [.ref q_book_kinds, .ref q_book_strokeCounts, .ref q_book_strokes, .ref q_book_lengths, .ref q_book_letters, .int c_book_size])), (q_book_lengths, .inl (E.2.2.1, 60, .inl a_book_lengths)), (q_book_letters, .inl (E.2.1, 960, .inl a_book_letters)), (q_bytes, .inl (E.2.1, n_bytes, .inl a_bytes))]
def jr_Page_joinSuffix : Room := { frames := 2, cells := 0, slots := 0, locals := 47 }
set_option maxHeartbeats 4000000 in
set_option maxRecDepth 100000 in
theorem jc_Page_joinSuffix (l : Launch) (E : jE) (q_this q_book q_bytes q_book_kinds q_book_strokeCounts q_book_strokes q_book_lengths q_book_letters : Nat) (n_bytes : Nat) (c_size : Int32) (c_shift : Int32) (c_link : Int32) (c_lastWordLength : Int32) (c_lastWordVowels : Int32) (c_book_size : Int32) (a_book_lengths : (Nat → Int32)) (a_book_letters : (Nat → Int32)) (a_bytes : (Nat → Int32)) (x1 : Int32) (N : Nat) {T : Int32 × Int32 × Int32 × Int32 × (Nat → Int32)} (h : jf_Page_joinSuffix N x1 n_bytes c_book_size a_book_lengths a_book_letters c_size c_link c_lastWordLength c_lastWordVowels a_bytes = some T) : jMv l yX4_joinSuffix wsX4_joinSuffix jr_Page_joinSuffix E [.ref q_this, .int x1] (jw_Page_joinSuffix E q_this q_book q_bytes q_book_kinds q_book_strokeCounts q_book_strokes q_book_lengths q_book_letters n_bytes c_size c_shift c_link c_lastWordLength c_lastWordVowels c_book_size a_book_lengths a_book_letters a_bytes) (jw_Page_joinSuffix E q_this q_book q_bytes q_book_kinds q_book_strokeCounts q_book_strokes q_book_lengths q_book_letters n_bytes T.1 c_shift T.2.1 T.2.2.1 T.2.2.2.1 c_book_size a_book_lengths a_book_letters T.2.2.2.2) := by
  refine jMv.begin (cc := cX4_joinSuffix) (maxL := 6) (ret := none) (by decide) rfl (Nat.le_of_ble_eq_true rfl) ?_
  intro p e s m args below meth c A ls Q hQ hx hb hr hml hown hlocks hts hK hA hP hD hS hl
  replace hown : s.vm.findClass RX4 = some m.cls := hown
  replace hl : lv_has ls 6 [(0, .ref q_this), (1, .int x1)] := hl
  have hin4 : ∀ w ∈ u_ws RX4 TX4 7, w ∈ wsX4_joinSuffix := by decide +kernel
  have hk_9 := hts (.fieldLink RX4 9 "StenoRoom$Page" "book" "LStenoRoom$Book;") (by decide +kernel)
  have hk_25 := hts (.fieldLink RX4 25 "StenoRoom$Page" "size" "I") (by decide +kernel)
  have hk_32 := hts (.fieldLink RX4 32 "StenoRoom$Page" "link" "I") (by decide +kernel)
  have kb188 : ∀ (c_size : Int32) (c_link : Int32) (c_lastWordLength : Int32) (c_lastWordVowels : Int32) (a_bytes : (Nat → Int32)) (H : Heap) (locs : List Loc) (ls : Array Slot), jf_Page_joinSuffix_b188 c_size c_link c_lastWordLength c_lastWordVowels a_bytes = some T → va_P E.1 vwCl (jw_Page_joinSuffix E q_this q_book q_bytes q_book_kinds q_book_strokeCounts q_book_strokes q_book_lengths q_book_letters n_bytes c_size c_shift c_link c_lastWordLength c_lastWordVowels c_book_size a_book_lengths a_book_letters a_bytes) H → va_D A (jw_Page_joinSuffix E q_this q_book q_bytes q_book_kinds q_book_strokeCounts q_book_strokes q_book_lengths q_book_letters n_bytes c_size c_shift c_link c_lastWordLength c_lastWordVowels c_book_size a_book_lengths a_book_letters a_bytes) → va_S A s.heap H locs → lv_has ls 6 [(0, .ref q_this)] → W p l e jr_Page_joinSuffix s m args below meth c H locs 0 0 Q (F0 m 188 ls []) := by
    intro  c_size c_link c_lastWordLength c_lastWordVowels a_bytes H locs ls h hP hD hS hl
    unfold jf_Page_joinSuffix_b188 at h
    refine lv_aload_n hx hb dX4_joinSuffix_188 rfl (lv_at hl 0 rfl) ?_
    refine lv_iconst (v := 0) hx hb dX4_joinSuffix_189 (by decide) ?_
    refine va_put (D := E.1) (ci := 4) (v := .int 0) (ty := .int) (C := RX4) (T := TX4) (N := 7) hx hb hts hin4 tyX4 tyX4_ok nmX4 hown hK.1 hP hD hS 0 rfl rfl 4 (by decide) hk_32 (fun _ h9 => h9) rfl (by decide +kernel) rfl rfl (Nat.le_of_ble_eq_true rfl) dX4_joinSuffix_190 (fun H locs hP hD hS => ?_)
    replace hP : va_P E.1 vwCl (jw_Page_joinSuffix E q_this q_book q_bytes q_book_kinds q_book_strokeCounts q_book_strokes q_book_lengths q_book_letters n_bytes c_size c_shift 0 c_lastWordLength c_lastWordVowels c_book_size a_book_lengths a_book_letters a_bytes) H := hP
    replace hD : va_D A (jw_Page_joinSuffix E q_this q_book q_bytes q_book_kinds q_book_strokeCounts q_book_strokes q_book_lengths q_book_letters n_bytes c_size c_shift 0 c_lastWordLength c_lastWordVowels c_book_size a_book_lengths a_book_letters a_bytes) := hD
    exact j_vret (u := (c_size, 0, c_lastWordLength, c_lastWordVowels, a_bytes)) (wv := (fun T => (jw_Page_joinSuffix E q_this q_book q_bytes q_book_kinds q_book_strokeCounts q_book_strokes q_book_lengths q_book_letters n_bytes T.1 c_shift T.2.1 T.2.2.1 T.2.2.2.1 c_book_size a_book_lengths a_book_letters T.2.2.2.2))) h hQ hx hb hr hlocks hS hP hD dX4_joinSuffix_193
  have kb155 : ∀ (n : Nat) (x5 : Int32) (c_size : Int32) (c_link : Int32) (c_lastWordLength : Int32) (c_lastWordVowels : Int32) (a_bytes : (Nat → Int32)) (H : Heap) (locs : List Loc) (ls : Array Slot), jf_Page_joinSuffix_b155 x1 n_bytes c_book_size a_book_lengths a_book_letters n x5 c_size c_link c_lastWordLength c_lastWordVowels a_bytes = some T → va_P E.1 vwCl (jw_Page_joinSuffix E q_this q_book q_bytes q_book_kinds q_book_strokeCounts q_book_strokes q_book_lengths q_book_letters n_bytes c_size c_shift c_link c_lastWordLength c_lastWordVowels c_book_size a_book_lengths a_book_letters a_bytes) H → va_D A (jw_Page_joinSuffix E q_this q_book q_bytes q_book_kinds q_book_strokeCounts q_book_strokes q_book_lengths q_book_letters n_bytes c_size c_shift c_link c_lastWordLength c_lastWordVowels c_book_size a_book_lengths a_book_letters a_bytes) → va_S A s.heap H locs → lv_has ls 6 [(0, .ref q_this), (1, .int x1), (5, .int x5)] → W p l e jr_Page_joinSuffix s m args below meth c H locs 0 0 Q (F0 m 155 ls []) := by
    intro n
    induction n with
    | zero => intro x5 c_size c_link c_lastWordLength c_lastWordVowels a_bytes H locs ls h; exact j_none (α := Int32 × Int32 × Int32 × Int32 × (Nat → Int32)) h
    | succ n ih =>
      intro x5 c_size c_link c_lastWordLength c_lastWordVowels a_bytes H locs ls h hP hD hS hl
      rw [jf_Page_joinSuffix_b155] at h
      refine lv_iload hx hb dX4_joinSuffix_155 (lv_at hl 2 rfl) ?_
      refine lv_aload_n hx hb dX4_joinSuffix_157 rfl (lv_at hl 0 rfl) ?_
      refine va_get (D := E.1) (ci := 4) (v := .ref q_book) (C := RX4) (T := TX4) (N := 7) hx hb hts hin4 hown hK.1 hP 0 rfl rfl 0 (by decide) hk_9 (fun _ h9 => h9) rfl dX4_joinSuffix_158 ?_
      refine lv_iload_n hx hb dX4_joinSuffix_161 rfl (lv_at hl 1 rfl) ?_
      obtain ⟨r162, hf162, h⟩ := jbd h
      refine j_callVi (own := RX4) (As := [.int x1]) (rest := [.int x5]) hx hb hml hown hts hK hA hP hD hS (jc_Book_lengthOf l E q_book q_book_kinds q_book_strokeCounts q_book_strokes q_book_lengths q_book_letters c_book_size a_book_lengths x1 N hf162) gX4_joinSuffix_X0_lengthOf rfl ⟨rfl, rfl⟩ 1 (by decide +kernel) rfl rfl 1 0 rfl rfl [1, 2] [0, 3, 4] [0, 3, 4, 1, 2] rfl rfl rfl rfl rfl rfl rfl hl.1 rfl rfl dX4_joinSuffix_162 (fun H locs hP hD hS => ?_)
      replace hP : va_P E.1 vwCl (jw_Page_joinSuffix E q_this q_book q_bytes q_book_kinds q_book_strokeCounts q_book_strokes q_book_lengths q_book_letters n_bytes c_size c_shift c_link c_lastWordLength c_lastWordVowels c_book_size a_book_lengths a_book_letters a_bytes) H := hP
      replace hD : va_D A (jw_Page_joinSuffix E q_this q_book q_bytes q_book_kinds q_book_strokeCounts q_book_strokes q_book_lengths q_book_letters n_bytes c_size c_shift c_link c_lastWordLength c_lastWordVowels c_book_size a_book_lengths a_book_letters a_bytes) := hD
      refine lv_icmp_ge (tgt := 188) hx hb dX4_joinSuffix_165 (by decide) (fun hq165 => ?_) (fun hq165 => ?_)
      · replace h := jif_t hq165 h
        exact kb188   c_size c_link c_lastWordLength c_lastWordVowels a_bytes _ _ _ h hP hD hS (lv_sub hl [0] rfl)
      · replace h := jif_f hq165 h
        refine lv_aload_n hx hb dX4_joinSuffix_168 rfl (lv_at hl 0 rfl) ?_
        refine lv_aload_n hx hb dX4_joinSuffix_169 rfl (lv_at hl 0 rfl) ?_
        refine va_get (D := E.1) (ci := 4) (v := .ref q_book) (C := RX4) (T := TX4) (N := 7) hx hb hts hin4 hown hK.1 hP 0 rfl rfl 0 (by decide) hk_9 (fun _ h9 => h9) rfl dX4_joinSuffix_170 ?_
        refine lv_iload_n hx hb dX4_joinSuffix_173 rfl (lv_at hl 1 rfl) ?_
        refine lv_iload hx hb dX4_joinSuffix_174 (lv_at hl 2 rfl) ?_
        obtain ⟨r176, hf176, h⟩ := jbd h
        refine j_callVi (own := RX4) (As := [.int x1, .int x5]) (rest := [.ref q_this]) hx hb hml hown hts hK hA hP hD hS (jc_Book_letterAt l E q_book q_book_kinds q_book_strokeCounts q_book_strokes q_book_lengths q_book_letters c_book_size a_book_lengths a_book_letters x1 x5 N hf176) gX4_joinSuffix_X0_letterAt rfl ⟨rfl, rfl⟩ 2 (by decide +kernel) rfl rfl 1 0 rfl rfl [1, 2, 3] [0, 4] [0, 2, 3, 4, 1] rfl rfl rfl rfl rfl rfl rfl hl.1 rfl rfl dX4_joinSuffix_176 (fun H locs hP hD hS => ?_)
        replace hP : va_P E.1 vwCl (jw_Page_joinSuffix E q_this q_book q_bytes q_book_kinds q_book_strokeCounts q_book_strokes q_book_lengths q_book_letters n_bytes c_size c_shift c_link c_lastWordLength c_lastWordVowels c_book_size a_book_lengths a_book_letters a_bytes) H := hP
        replace hD : va_D A (jw_Page_joinSuffix E q_this q_book q_bytes q_book_kinds q_book_strokeCounts q_book_strokes q_book_lengths q_book_letters n_bytes c_size c_shift c_link c_lastWordLength c_lastWordVowels c_book_size a_book_lengths a_book_letters a_bytes) := hD
        obtain ⟨⟨c_size_179, a_bytes_179⟩, hf179, h⟩ := jbd h
        refine j_callVv (own := RX4) (As := [.int r176]) (rest := []) hx hb hml hown hts hK hA hP hD hS (jc_Page_put l E q_this q_book q_bytes n_bytes c_size c_shift c_link c_lastWordLength c_lastWordVowels a_bytes r176 N hf179) gX4_joinSuffix_X4_put rfl ⟨rfl, rfl⟩ 1 (by decide +kernel) rfl rfl 0 4 rfl rfl [0, 4] [1, 2, 3] [3, 0, 1, 2, 4] rfl rfl rfl rfl rfl rfl rfl hl.1 rfl rfl dX4_joinSuffix_179 (fun H locs hP hD hS => ?_)
        replace hP : va_P E.1 vwCl (jw_Page_joinSuffix E q_this q_book q_bytes q_book_kinds q_book_strokeCounts q_book_strokes q_book_lengths q_book_letters n_bytes c_size_179 c_shift c_link c_lastWordLength c_lastWordVowels c_book_size a_book_lengths a_book_letters a_bytes_179) H := hP
        replace hD : va_D A (jw_Page_joinSuffix E q_this q_book q_bytes q_book_kinds q_book_strokeCounts q_book_strokes q_book_lengths q_book_letters n_bytes c_size_179 c_shift c_link c_lastWordLength c_lastWordVowels c_book_size a_book_lengths a_book_letters a_bytes_179) := hD
        refine lv_iinc (v := (x5 + 1)) (lv' := [(5, .int (x5 + 1)), (0, .ref q_this), (1, .int x1)]) hx hb dX4_joinSuffix_182 hl (k := 2) rfl rfl (by decide) rfl (fun ls hl => ?_)
        refine lv_goto (tgt := 155) hx hb dX4_joinSuffix_185 (by decide) ?_
        exact ih (x5 + 1) c_size_179 c_link c_lastWordLength c_lastWordVowels a_bytes_179 _ _ _ h hP hD hS (lv_sub hl [1, 2, 0] rfl)
  have kb152 : ∀ (c_size : Int32) (c_link : Int32) (c_lastWordLength : Int32) (c_lastWordVowels : Int32) (a_bytes : (Nat → Int32)) (H : Heap) (locs : List Loc) (ls : Array Slot), jf_Page_joinSuffix_b152 N x1 n_bytes c_book_size a_book_lengths a_book_letters c_size c_link c_lastWordLength c_lastWordVowels a_bytes = some T → va_P E.1 vwCl (jw_Page_joinSuffix E q_this q_book q_bytes q_book_kinds q_book_strokeCounts q_book_strokes q_book_lengths q_book_letters n_bytes c_size c_shift c_link c_lastWordLength c_lastWordVowels c_book_size a_book_lengths a_book_letters a_bytes) H → va_D A (jw_Page_joinSuffix E q_this q_book q_bytes q_book_kinds q_book_strokeCounts q_book_strokes q_book_lengths q_book_letters n_bytes c_size c_shift c_link c_lastWordLength c_lastWordVowels c_book_size a_book_lengths a_book_letters a_bytes) → va_S A s.heap H locs → lv_has ls 6 [(0, .ref q_this), (1, .int x1)] → W p l e jr_Page_joinSuffix s m args below meth c H locs 0 0 Q (F0 m 152 ls []) := by
    intro  c_size c_link c_lastWordLength c_lastWordVowels a_bytes H locs ls h hP hD hS hl
    unfold jf_Page_joinSuffix_b152 at h
    refine lv_iconst (v := 0) hx hb dX4_joinSuffix_152 (by decide) ?_
    refine lv_istore (lv' := [(5, .int 0), (0, .ref q_this), (1, .int x1)]) hx hb dX4_joinSuffix_153 hl (by decide) rfl (fun ls hl => ?_)
    exact kb155  N 0 c_size c_link c_lastWordLength c_lastWordVowels a_bytes _ _ _ h hP hD hS (lv_sub hl [1, 2, 0] rfl)
  have kb33 : ∀ (x2 : Int32) (z0 : Int32) (c_size : Int32) (c_link : Int32) (c_lastWordLength : Int32) (c_lastWordVowels : Int32) (a_bytes : (Nat → Int32)) (H : Heap) (locs : List Loc) (ls : Array Slot), jf_Page_joinSuffix_b33 N x1 n_bytes c_book_size a_book_lengths a_book_letters x2 z0 c_size c_link c_lastWordLength c_lastWordVowels a_bytes = some T → va_P E.1 vwCl (jw_Page_joinSuffix E q_this q_book q_bytes q_book_kinds q_book_strokeCounts q_book_strokes q_book_lengths q_book_letters n_bytes c_size c_shift c_link c_lastWordLength c_lastWordVowels c_book_size a_book_lengths a_book_letters a_bytes) H → va_D A (jw_Page_joinSuffix E q_this q_book q_bytes q_book_kinds q_book_strokeCounts q_book_strokes q_book_lengths q_book_letters n_bytes c_size c_shift c_link c_lastWordLength c_lastWordVowels c_book_size a_book_lengths a_book_letters a_bytes) → va_S A s.heap H locs → lv_has ls 6 [(0, .ref q_this), (1, .int x1), (2, .int x2)] → W p l e jr_Page_joinSuffix s m args below meth c H locs 0 0 Q (F0 m 33 ls [.int z0]) := by
    intro  x2 z0 c_size c_link c_lastWordLength c_lastWordVowels a_bytes H locs ls h hP hD hS hl
    unfold jf_Page_joinSuffix_b33 at h
    refine lv_istore_n (lv' := [(3, .int z0), (0, .ref q_this), (1, .int x1), (2, .int x2)]) hx hb dX4_joinSuffix_33 rfl hl (by decide) rfl (fun ls hl => ?_)
    refine lv_aload_n hx hb dX4_joinSuffix_34 rfl (lv_at hl 1 rfl) ?_
    refine lv_iload_n hx hb dX4_joinSuffix_35 rfl (lv_at hl 3 rfl) ?_
    obtain ⟨r36, hf36, h⟩ := jbd h
    refine j_callNi (own := RX4) (As := [.int x2]) (rest := [.ref q_this]) hx hb hml hown hts hK hA hP hD hS (jc_Room_isVowel l E x2 N hf36) gX4_joinSuffix_X10_isVowel_n79 (by decide +kernel) (by decide +kernel) (by decide +kernel) rfl ⟨rfl, rfl⟩ 1 (by decide +kernel) rfl rfl [] [0, 1, 2, 3, 4] [0, 1, 2, 3, 4] rfl rfl rfl rfl rfl rfl rfl hl.1 rfl rfl dX4_joinSuffix_36 (fun H locs hP hD hS => ?_)
    replace hP : va_P E.1 vwCl (jw_Page_joinSuffix E q_this q_book q_bytes q_book_kinds q_book_strokeCounts q_book_strokes q_book_lengths q_book_letters n_bytes c_size c_shift c_link c_lastWordLength c_lastWordVowels c_book_size a_book_lengths a_book_letters a_bytes) H := hP
    replace hD : va_D A (jw_Page_joinSuffix E q_this q_book q_bytes q_book_kinds q_book_strokeCounts q_book_strokes q_book_lengths q_book_letters n_bytes c_size c_shift c_link c_lastWordLength c_lastWordVowels c_book_size a_book_lengths a_book_letters a_bytes) := hD
    obtain ⟨⟨c_lastWordLength_39, c_lastWordVowels_39⟩, hf39, h⟩ := jbd h
    refine j_callVv (own := RX4) (As := [.int r36]) (rest := []) hx hb hml hown hts hK hA hP hD hS (jc_Page_measureLastWord l E q_this q_book q_bytes n_bytes c_size c_shift c_link c_lastWordLength c_lastWordVowels a_bytes r36 N hf39) gX4_joinSuffix_X4_measureLastWord rfl ⟨rfl, rfl⟩ 1 (by decide +kernel) rfl rfl 0 4 rfl rfl [0, 4] [1, 2, 3] [3, 0, 1, 2, 4] rfl rfl rfl rfl rfl rfl rfl hl.1 rfl rfl dX4_joinSuffix_39 (fun H locs hP hD hS => ?_)
    replace hP : va_P E.1 vwCl (jw_Page_joinSuffix E q_this q_book q_bytes q_book_kinds q_book_strokeCounts q_book_strokes q_book_lengths q_book_letters n_bytes c_size c_shift c_link c_lastWordLength_39 c_lastWordVowels_39 c_book_size a_book_lengths a_book_letters a_bytes) H := hP
    replace hD : va_D A (jw_Page_joinSuffix E q_this q_book q_bytes q_book_kinds q_book_strokeCounts q_book_strokes q_book_lengths q_book_letters n_bytes c_size c_shift c_link c_lastWordLength_39 c_lastWordVowels_39 c_book_size a_book_lengths a_book_letters a_bytes) := hD
    refine lv_aload_n hx hb dX4_joinSuffix_42 rfl (lv_at hl 1 rfl) ?_
    refine lv_iconst (v := 0) hx hb dX4_joinSuffix_43 (by decide) ?_
    obtain ⟨r44, hf44, h⟩ := jbd h
    refine j_callVi (own := RX4) (As := [.int 0]) (rest := []) hx hb hml hown hts hK hA hP hD hS (jc_Page_smallFromEnd l E q_this q_book q_bytes n_bytes c_size c_shift c_link c_lastWordLength_39 c_lastWordVowels_39 a_bytes 0 N hf44) gX4_joinSuffix_X4_smallFromEnd rfl ⟨rfl, rfl⟩ 1 (by decide +kernel) rfl rfl 0 4 rfl rfl [0, 4] [1, 2, 3] [3, 0, 1, 2, 4] rfl rfl rfl rfl rfl rfl rfl hl.1 rfl rfl dX4_joinSuffix_44 (fun H locs hP hD hS => ?_)
    replace hP : va_P E.1 vwCl (jw_Page_joinSuffix E q_this q_book q_bytes q_book_kinds q_book_strokeCounts q_book_strokes q_book_lengths q_book_letters n_bytes c_size c_shift c_link c_lastWordLength_39 c_lastWordVowels_39 c_book_size a_book_lengths a_book_letters a_bytes) H := hP
    replace hD : va_D A (jw_Page_joinSuffix E q_this q_book q_bytes q_book_kinds q_book_strokeCounts q_book_strokes q_book_lengths q_book_letters n_bytes c_size c_shift c_link c_lastWordLength_39 c_lastWordVowels_39 c_book_size a_book_lengths a_book_letters a_bytes) := hD
    refine lv_istore (lv' := [(4, .int r44), (3, .int z0), (0, .ref q_this), (1, .int x1), (2, .int x2)]) hx hb dX4_joinSuffix_47 hl (by decide) rfl (fun ls hl => ?_)
    refine lv_aload_n hx hb dX4_joinSuffix_49 rfl (lv_at hl 2 rfl) ?_
    refine lv_iload hx hb dX4_joinSuffix_50 (lv_at hl 0 rfl) ?_
    refine lv_aload_n hx hb dX4_joinSuffix_52 rfl (lv_at hl 2 rfl) ?_
    refine lv_iconst (v := 1) hx hb dX4_joinSuffix_53 (by decide) ?_
    obtain ⟨r54, hf54, h⟩ := jbd h
    refine j_callVi (own := RX4) (As := [.int 1]) (rest := [.int r44, .ref q_this]) hx hb hml hown hts hK hA hP hD hS (jc_Page_smallFromEnd l E q_this q_book q_bytes n_bytes c_size c_shift c_link c_lastWordLength_39 c_lastWordVowels_39 a_bytes 1 N hf54) gX4_joinSuffix_X4_smallFromEnd rfl ⟨rfl, rfl⟩ 1 (by decide +kernel) rfl rfl 0 4 rfl rfl [0, 4] [1, 2, 3] [3, 0, 1, 2, 4] rfl rfl rfl rfl rfl rfl rfl hl.1 rfl rfl dX4_joinSuffix_54 (fun H locs hP hD hS => ?_)
    replace hP : va_P E.1 vwCl (jw_Page_joinSuffix E q_this q_book q_bytes q_book_kinds q_book_strokeCounts q_book_strokes q_book_lengths q_book_letters n_bytes c_size c_shift c_link c_lastWordLength_39 c_lastWordVowels_39 c_book_size a_book_lengths a_book_letters a_bytes) H := hP
    replace hD : va_D A (jw_Page_joinSuffix E q_this q_book q_bytes q_book_kinds q_book_strokeCounts q_book_strokes q_book_lengths q_book_letters n_bytes c_size c_shift c_link c_lastWordLength_39 c_lastWordVowels_39 c_book_size a_book_lengths a_book_letters a_bytes) := hD
    refine lv_iload_n hx hb dX4_joinSuffix_57 rfl (lv_at hl 4 rfl) ?_
    refine lv_iload_n hx hb dX4_joinSuffix_58 rfl (lv_at hl 1 rfl) ?_
    obtain ⟨r59, hf59, h⟩ := jbd h
    refine j_callVi (own := RX4) (As := [.int r44, .int r54, .int x2, .int z0]) (rest := []) hx hb hml hown hts hK hA hP hD hS (jc_Page_ruleFor l E q_this q_book q_bytes c_size c_shift c_link c_lastWordLength_39 c_lastWordVowels_39 r44 r54 x2 z0 N hf59) gX4_joinSuffix_X4_ruleFor rfl ⟨rfl, rfl⟩ 4 (by decide +kernel) rfl rfl 0 4 rfl rfl [0] [1, 2, 3, 4] [4, 0, 1, 2, 3] rfl rfl rfl rfl rfl rfl rfl hl.1 rfl rfl dX4_joinSuffix_59 (fun H locs hP hD hS => ?_)
    replace hP : va_P E.1 vwCl (jw_Page_joinSuffix E q_this q_book q_bytes q_book_kinds q_book_strokeCounts q_book_strokes q_book_lengths q_book_letters n_bytes c_size c_shift c_link c_lastWordLength_39 c_lastWordVowels_39 c_book_size a_book_lengths a_book_letters a_bytes) H := hP
    replace hD : va_D A (jw_Page_joinSuffix E q_this q_book q_bytes q_book_kinds q_book_strokeCounts q_book_strokes q_book_lengths q_book_letters n_bytes c_size c_shift c_link c_lastWordLength_39 c_lastWordVowels_39 c_book_size a_book_lengths a_book_letters a_bytes) := hD
    by_cases hq62_1 : r59 = 1
    · replace h := jif_t hq62_1 h
      refine lv_tableIn (off := 30) (tgt := 92) hx hb dX4_joinSuffix_62 (by rw [hq62_1]; decide) (by rw [hq62_1]; decide) (by rw [hq62_1]; rfl) (by decide) ?_
      refine lv_aload_n hx hb dX4_joinSuffix_92 rfl (lv_at hl 2 rfl) ?_
      refine lv_dup hx hb dX4_joinSuffix_93 rfl ?_
      refine va_get (D := E.1) (ci := 4) (v := .int c_size) (C := RX4) (T := TX4) (N := 7) hx hb hts hin4 hown hK.1 hP 0 rfl rfl 2 (by decide) hk_25 (fun _ h9 => h9) rfl dX4_joinSuffix_94 ?_
      refine lv_iconst (v := 1) hx hb dX4_joinSuffix_97 (by decide) ?_
      refine lv_isub hx hb dX4_joinSuffix_98 ?_
      refine va_put (D := E.1) (ci := 4) (v := .int (c_size - 1)) (ty := .int) (C := RX4) (T := TX4) (N := 7) hx hb hts hin4 tyX4 tyX4_ok nmX4 hown hK.1 hP hD hS 0 rfl rfl 2 (by decide) hk_25 (fun _ h9 => h9) rfl (by decide +kernel) rfl rfl (Nat.le_of_ble_eq_true rfl) dX4_joinSuffix_99 (fun H locs hP hD hS => ?_)
      replace hP : va_P E.1 vwCl (jw_Page_joinSuffix E q_this q_book q_bytes q_book_kinds q_book_strokeCounts q_book_strokes q_book_lengths q_book_letters n_bytes (c_size - 1) c_shift c_link c_lastWordLength_39 c_lastWordVowels_39 c_book_size a_book_lengths a_book_letters a_bytes) H := hP
      replace hD : va_D A (jw_Page_joinSuffix E q_this q_book q_bytes q_book_kinds q_book_strokeCounts q_book_strokes q_book_lengths q_book_letters n_bytes (c_size - 1) c_shift c_link c_lastWordLength_39 c_lastWordVowels_39 c_book_size a_book_lengths a_book_letters a_bytes) := hD
      refine lv_aload_n hx hb dX4_joinSuffix_102 rfl (lv_at hl 2 rfl) ?_
      refine lv_bipush (v := 105) hx hb dX4_joinSuffix_103 (by decide) ?_
      obtain ⟨⟨c_size_105, a_bytes_105⟩, hf105, h⟩ := jbd h
      refine j_callVv (own := RX4) (As := [.int 105]) (rest := []) hx hb hml hown hts hK hA hP hD hS (jc_Page_put l E q_this q_book q_bytes n_bytes (c_size - 1) c_shift c_link c_lastWordLength_39 c_lastWordVowels_39 a_bytes 105 N hf105) gX4_joinSuffix_X4_put rfl ⟨rfl, rfl⟩ 1 (by decide +kernel) rfl rfl 0 4 rfl rfl [0, 4] [1, 2, 3] [3, 0, 1, 2, 4] rfl rfl rfl rfl rfl rfl rfl hl.1 rfl rfl dX4_joinSuffix_105 (fun H locs hP hD hS => ?_)
      replace hP : va_P E.1 vwCl (jw_Page_joinSuffix E q_this q_book q_bytes q_book_kinds q_book_strokeCounts q_book_strokes q_book_lengths q_book_letters n_bytes c_size_105 c_shift c_link c_lastWordLength_39 c_lastWordVowels_39 c_book_size a_book_lengths a_book_letters a_bytes_105) H := hP
      replace hD : va_D A (jw_Page_joinSuffix E q_this q_book q_bytes q_book_kinds q_book_strokeCounts q_book_strokes q_book_lengths q_book_letters n_bytes c_size_105 c_shift c_link c_lastWordLength_39 c_lastWordVowels_39 c_book_size a_book_lengths a_book_letters a_bytes_105) := hD
      refine lv_iload_n hx hb dX4_joinSuffix_108 rfl (lv_at hl 1 rfl) ?_
      refine lv_if_eq (tgt := 152) hx hb dX4_joinSuffix_109 (by decide) (fun hq109 => ?_) (fun hq109 => ?_)
      · replace h := jif_t hq109 h
        exact kb152   c_size_105 c_link c_lastWordLength_39 c_lastWordVowels_39 a_bytes_105 _ _ _ h hP hD hS (lv_sub hl [2, 3] rfl)
      · replace h := jif_f hq109 h
        refine lv_aload_n hx hb dX4_joinSuffix_112 rfl (lv_at hl 2 rfl) ?_
        refine lv_bipush (v := 101) hx hb dX4_joinSuffix_113 (by decide) ?_
        obtain ⟨⟨c_size_115, a_bytes_115⟩, hf115, h⟩ := jbd h
        refine j_callVv (own := RX4) (As := [.int 101]) (rest := []) hx hb hml hown hts hK hA hP hD hS (jc_Page_put l E q_this q_book q_bytes n_bytes c_size_105 c_shift c_link c_lastWordLength_39 c_lastWordVowels_39 a_bytes_105 101 N hf115) gX4_joinSuffix_X4_put rfl ⟨rfl, rfl⟩ 1 (by decide +kernel) rfl rfl 0 4 rfl rfl [0, 4] [1, 2, 3] [3, 0, 1, 2, 4] rfl rfl rfl rfl rfl rfl rfl hl.1 rfl rfl dX4_joinSuffix_115 (fun H locs hP hD hS => ?_)
        replace hP : va_P E.1 vwCl (jw_Page_joinSuffix E q_this q_book q_bytes q_book_kinds q_book_strokeCounts q_book_strokes q_book_lengths q_book_letters n_bytes c_size_115 c_shift c_link c_lastWordLength_39 c_lastWordVowels_39 c_book_size a_book_lengths a_book_letters a_bytes_115) H := hP
        replace hD : va_D A (jw_Page_joinSuffix E q_this q_book q_bytes q_book_kinds q_book_strokeCounts q_book_strokes q_book_lengths q_book_letters n_bytes c_size_115 c_shift c_link c_lastWordLength_39 c_lastWordVowels_39 c_book_size a_book_lengths a_book_letters a_bytes_115) := hD
        refine lv_goto (tgt := 152) hx hb dX4_joinSuffix_118 (by decide) ?_
        exact kb152   c_size_115 c_link c_lastWordLength_39 c_lastWordVowels_39 a_bytes_115 _ _ _ h hP hD hS (lv_sub hl [2, 3] rfl)
    replace h := jif_f hq62_1 h
    by_cases hq62_2 : r59 = 2
    · replace h := jif_t hq62_2 h
      refine lv_tableIn (off := 59) (tgt := 121) hx hb dX4_joinSuffix_62 (by rw [hq62_2]; decide) (by rw [hq62_2]; decide) (by rw [hq62_2]; rfl) (by decide) ?_
      refine lv_aload_n hx hb dX4_joinSuffix_121 rfl (lv_at hl 2 rfl) ?_
      refine lv_bipush (v := 101) hx hb dX4_joinSuffix_122 (by decide) ?_
      obtain ⟨⟨c_size_124, a_bytes_124⟩, hf124, h⟩ := jbd h
      refine j_callVv (own := RX4) (As := [.int 101]) (rest := []) hx hb hml hown hts hK hA hP hD hS (jc_Page_put l E q_this q_book q_bytes n_bytes c_size c_shift c_link c_lastWordLength_39 c_lastWordVowels_39 a_bytes 101 N hf124) gX4_joinSuffix_X4_put rfl ⟨rfl, rfl⟩ 1 (by decide +kernel) rfl rfl 0 4 rfl rfl [0, 4] [1, 2, 3] [3, 0, 1, 2, 4] rfl rfl rfl rfl rfl rfl rfl hl.1 rfl rfl dX4_joinSuffix_124 (fun H locs hP hD hS => ?_)
      replace hP : va_P E.1 vwCl (jw_Page_joinSuffix E q_this q_book q_bytes q_book_kinds q_book_strokeCounts q_book_strokes q_book_lengths q_book_letters n_bytes c_size_124 c_shift c_link c_lastWordLength_39 c_lastWordVowels_39 c_book_size a_book_lengths a_book_letters a_bytes_124) H := hP
      replace hD : va_D A (jw_Page_joinSuffix E q_this q_book q_bytes q_book_kinds q_book_strokeCounts q_book_strokes q_book_lengths q_book_letters n_bytes c_size_124 c_shift c_link c_lastWordLength_39 c_lastWordVowels_39 c_book_size a_book_lengths a_book_letters a_bytes_124) := hD
      refine lv_goto (tgt := 152) hx hb dX4_joinSuffix_127 (by decide) ?_
      exact kb152   c_size_124 c_link c_lastWordLength_39 c_lastWordVowels_39 a_bytes_124 _ _ _ h hP hD hS (lv_sub hl [2, 3] rfl)
    replace h := jif_f hq62_2 h
    by_cases hq62_3 : r59 = 3
    · replace h := jif_t hq62_3 h
      refine lv_tableIn (off := 68) (tgt := 130) hx hb dX4_joinSuffix_62 (by rw [hq62_3]; decide) (by rw [hq62_3]; decide) (by rw [hq62_3]; rfl) (by decide) ?_
      refine lv_aload_n hx hb dX4_joinSuffix_130 rfl (lv_at hl 2 rfl) ?_
      refine lv_dup hx hb dX4_joinSuffix_131 rfl ?_
      refine va_get (D := E.1) (ci := 4) (v := .int c_size) (C := RX4) (T := TX4) (N := 7) hx hb hts hin4 hown hK.1 hP 0 rfl rfl 2 (by decide) hk_25 (fun _ h9 => h9) rfl dX4_joinSuffix_132 ?_
      refine lv_iconst (v := 1) hx hb dX4_joinSuffix_135 (by decide) ?_
      refine lv_isub hx hb dX4_joinSuffix_136 ?_
      refine va_put (D := E.1) (ci := 4) (v := .int (c_size - 1)) (ty := .int) (C := RX4) (T := TX4) (N := 7) hx hb hts hin4 tyX4 tyX4_ok nmX4 hown hK.1 hP hD hS 0 rfl rfl 2 (by decide) hk_25 (fun _ h9 => h9) rfl (by decide +kernel) rfl rfl (Nat.le_of_ble_eq_true rfl) dX4_joinSuffix_137 (fun H locs hP hD hS => ?_)
      replace hP : va_P E.1 vwCl (jw_Page_joinSuffix E q_this q_book q_bytes q_book_kinds q_book_strokeCounts q_book_strokes q_book_lengths q_book_letters n_bytes (c_size - 1) c_shift c_link c_lastWordLength_39 c_lastWordVowels_39 c_book_size a_book_lengths a_book_letters a_bytes) H := hP
      replace hD : va_D A (jw_Page_joinSuffix E q_this q_book q_bytes q_book_kinds q_book_strokeCounts q_book_strokes q_book_lengths q_book_letters n_bytes (c_size - 1) c_shift c_link c_lastWordLength_39 c_lastWordVowels_39 c_book_size a_book_lengths a_book_letters a_bytes) := hD
      refine lv_goto (tgt := 152) hx hb dX4_joinSuffix_140 (by decide) ?_
      exact kb152   (c_size - 1) c_link c_lastWordLength_39 c_lastWordVowels_39 a_bytes _ _ _ h hP hD hS (lv_sub hl [2, 3] rfl)
    replace h := jif_f hq62_3 h
    by_cases hq62_4 : r59 = 4
    · replace h := jif_t hq62_4 h
      refine lv_tableIn (off := 81) (tgt := 143) hx hb dX4_joinSuffix_62 (by rw [hq62_4]; decide) (by rw [hq62_4]; decide) (by rw [hq62_4]; rfl) (by decide) ?_
      refine lv_aload_n hx hb dX4_joinSuffix_143 rfl (lv_at hl 2 rfl) ?_
      refine lv_iload hx hb dX4_joinSuffix_144 (lv_at hl 0 rfl) ?_
      obtain ⟨⟨c_size_146, a_bytes_146⟩, hf146, h⟩ := jbd h
      refine j_callVv (own := RX4) (As := [.int r44]) (rest := []) hx hb hml hown hts hK hA hP hD hS (jc_Page_put l E q_this q_book q_bytes n_bytes c_size c_shift c_link c_lastWordLength_39 c_lastWordVowels_39 a_bytes r44 N hf146) gX4_joinSuffix_X4_put rfl ⟨rfl, rfl⟩ 1 (by decide +kernel) rfl rfl 0 4 rfl rfl [0, 4] [1, 2, 3] [3, 0, 1, 2, 4] rfl rfl rfl rfl rfl rfl rfl hl.1 rfl rfl dX4_joinSuffix_146 (fun H locs hP hD hS => ?_)
      replace hP : va_P E.1 vwCl (jw_Page_joinSuffix E q_this q_book q_bytes q_book_kinds q_book_strokeCounts q_book_strokes q_book_lengths q_book_letters n_bytes c_size_146 c_shift c_link c_lastWordLength_39 c_lastWordVowels_39 c_book_size a_book_lengths a_book_letters a_bytes_146) H := hP
      replace hD : va_D A (jw_Page_joinSuffix E q_this q_book q_bytes q_book_kinds q_book_strokeCounts q_book_strokes q_book_lengths q_book_letters n_bytes c_size_146 c_shift c_link c_lastWordLength_39 c_lastWordVowels_39 c_book_size a_book_lengths a_book_letters a_bytes_146) := hD
      refine lv_goto (tgt := 152) hx hb dX4_joinSuffix_149 (by decide) ?_
      exact kb152   c_size_146 c_link c_lastWordLength_39 c_lastWordVowels_39 a_bytes_146 _ _ _ h hP hD hS (lv_sub hl [2, 3] rfl)
    replace h := jif_f hq62_4 h
    refine lv_tableOut (tgt := 152) hx hb dX4_joinSuffix_62 (j_tabout 1 4 (by decide) (fun k h1 h2 => by rcases (show k = 1 ∨ k = 2 ∨ k = 3 ∨ k = 4 by omega) with rfl | rfl | rfl | rfl <;> first | exact hq62_1 | exact hq62_2 | exact hq62_3 | exact hq62_4)) (by decide) ?_
    exact kb152   c_size c_link c_lastWordLength_39 c_lastWordVowels_39 a_bytes _ _ _ h hP hD hS (lv_sub hl [2, 3] rfl)
  have kb32 : ∀ (x2 : Int32) (c_size : Int32) (c_link : Int32) (c_lastWordLength : Int32) (c_lastWordVowels : Int32) (a_bytes : (Nat → Int32)) (H : Heap) (locs : List Loc) (ls : Array Slot), jf_Page_joinSuffix_b32 N x1 n_bytes c_book_size a_book_lengths a_book_letters x2 c_size c_link c_lastWordLength c_lastWordVowels a_bytes = some T → va_P E.1 vwCl (jw_Page_joinSuffix E q_this q_book q_bytes q_book_kinds q_book_strokeCounts q_book_strokes q_book_lengths q_book_letters n_bytes c_size c_shift c_link c_lastWordLength c_lastWordVowels c_book_size a_book_lengths a_book_letters a_bytes) H → va_D A (jw_Page_joinSuffix E q_this q_book q_bytes q_book_kinds q_book_strokeCounts q_book_strokes q_book_lengths q_book_letters n_bytes c_size c_shift c_link c_lastWordLength c_lastWordVowels c_book_size a_book_lengths a_book_letters a_bytes) → va_S A s.heap H locs → lv_has ls 6 [(0, .ref q_this), (1, .int x1), (2, .int x2)] → W p l e jr_Page_joinSuffix s m args below meth c H locs 0 0 Q (F0 m 32 ls []) := by
    intro  x2 c_size c_link c_lastWordLength c_lastWordVowels a_bytes H locs ls h hP hD hS hl
    unfold jf_Page_joinSuffix_b32 at h
    refine lv_iconst (v := 0) hx hb dX4_joinSuffix_32 (by decide) ?_
    exact kb33   x2 0 c_size c_link c_lastWordLength c_lastWordVowels a_bytes _ _ _ h hP hD hS (lv_sub hl [0, 1, 2] rfl)
  unfold jf_Page_joinSuffix at h
  refine lv_aload_n hx hb dX4_joinSuffix_0 rfl (lv_at hl 0 rfl) ?_
  refine va_get (D := E.1) (ci := 4) (v := .ref q_book) (C := RX4) (T := TX4) (N := 7) hx hb hts hin4 hown hK.1 hP 0 rfl rfl 0 (by decide) hk_9 (fun _ h9 => h9) rfl dX4_joinSuffix_1 ?_
  refine lv_iload_n hx hb dX4_joinSuffix_4 rfl (lv_at hl 1 rfl) ?_
  refine lv_iconst (v := 0) hx hb dX4_joinSuffix_5 (by decide) ?_
  obtain ⟨r6, hf6, h⟩ := jbd h
  refine j_callVi (own := RX4) (As := [.int x1, .int 0]) (rest := []) hx hb hml hown hts hK hA hP hD hS (jc_Book_letterAt l E q_book q_book_kinds q_book_strokeCounts q_book_strokes q_book_lengths q_book_letters c_book_size a_book_lengths a_book_letters x1 0 N hf6) gX4_joinSuffix_X0_letterAt rfl ⟨rfl, rfl⟩ 2 (by decide +kernel) rfl rfl 1 0 rfl rfl [1, 2, 3] [0, 4] [0, 2, 3, 4, 1] rfl rfl rfl rfl rfl rfl rfl hl.1 rfl rfl dX4_joinSuffix_6 (fun H locs hP hD hS => ?_)
  replace hP : va_P E.1 vwCl (jw_Page_joinSuffix E q_this q_book q_bytes q_book_kinds q_book_strokeCounts q_book_strokes q_book_lengths q_book_letters n_bytes c_size c_shift c_link c_lastWordLength c_lastWordVowels c_book_size a_book_lengths a_book_letters a_bytes) H := hP
  replace hD : va_D A (jw_Page_joinSuffix E q_this q_book q_bytes q_book_kinds q_book_strokeCounts q_book_strokes q_book_lengths q_book_letters n_bytes c_size c_shift c_link c_lastWordLength c_lastWordVowels c_book_size a_book_lengths a_book_letters a_bytes) := hD
  refine lv_istore_n (lv' := [(2, .int r6), (0, .ref q_this), (1, .int x1)]) hx hb dX4_joinSuffix_9 rfl hl (by decide) rfl (fun ls hl => ?_)
  refine lv_iload_n hx hb dX4_joinSuffix_10 rfl (lv_at hl 0 rfl) ?_
  refine lv_bipush (v := 115) hx hb dX4_joinSuffix_11 (by decide) ?_
  refine lv_icmp_ne (tgt := 32) hx hb dX4_joinSuffix_13 (by decide) (fun hq13 => ?_) (fun hq13 => ?_)
  · replace h := jif_f hq13 h
    exact kb32   r6 c_size c_link c_lastWordLength c_lastWordVowels a_bytes _ _ _ h hP hD hS (lv_sub hl [1, 2, 0] rfl)
  · replace h := jif_t hq13 h
    refine lv_aload_n hx hb dX4_joinSuffix_16 rfl (lv_at hl 1 rfl) ?_
    refine va_get (D := E.1) (ci := 4) (v := .ref q_book) (C := RX4) (T := TX4) (N := 7) hx hb hts hin4 hown hK.1 hP 0 rfl rfl 0 (by decide) hk_9 (fun _ h9 => h9) rfl dX4_joinSuffix_17 ?_
    refine lv_iload_n hx hb dX4_joinSuffix_20 rfl (lv_at hl 2 rfl) ?_
    obtain ⟨r21, hf21, h⟩ := jbd h
    refine j_callVi (own := RX4) (As := [.int x1]) (rest := []) hx hb hml hown hts hK hA hP hD hS (jc_Book_lengthOf l E q_book q_book_kinds q_book_strokeCounts q_book_strokes q_book_lengths q_book_letters c_book_size a_book_lengths x1 N hf21) gX4_joinSuffix_X0_lengthOf rfl ⟨rfl, rfl⟩ 1 (by decide +kernel) rfl rfl 1 0 rfl rfl [1, 2] [0, 3, 4] [0, 3, 4, 1, 2] rfl rfl rfl rfl rfl rfl rfl hl.1 rfl rfl dX4_joinSuffix_21 (fun H locs hP hD hS => ?_)
    replace hP : va_P E.1 vwCl (jw_Page_joinSuffix E q_this q_book q_bytes q_book_kinds q_book_strokeCounts q_book_strokes q_book_lengths q_book_letters n_bytes c_size c_shift c_link c_lastWordLength c_lastWordVowels c_book_size a_book_lengths a_book_letters a_bytes) H := hP
    replace hD : va_D A (jw_Page_joinSuffix E q_this q_book q_bytes q_book_kinds q_book_strokeCounts q_book_strokes q_book_lengths q_book_letters n_bytes c_size c_shift c_link c_lastWordLength c_lastWordVowels c_book_size a_book_lengths a_book_letters a_bytes) := hD
    refine lv_iconst (v := 1) hx hb dX4_joinSuffix_24 (by decide) ?_
    refine lv_icmp_ne (tgt := 32) hx hb dX4_joinSuffix_25 (by decide) (fun hq25 => ?_) (fun hq25 => ?_)
    · replace h := jif_f hq25 h
      exact kb32   r6 c_size c_link c_lastWordLength c_lastWordVowels a_bytes _ _ _ h hP hD hS (lv_sub hl [1, 2, 0] rfl)
    · replace h := jif_t hq25 h
      refine lv_iconst (v := 1) hx hb dX4_joinSuffix_28 (by decide) ?_
      refine lv_goto (tgt := 33) hx hb dX4_joinSuffix_29 (by decide) ?_
      exact kb33   r6 1 c_size c_link c_lastWordLength c_lastWordVowels a_bytes _ _ _ h hP hD hS (lv_sub hl [1, 2, 0] rfl)
