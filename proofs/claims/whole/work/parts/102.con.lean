abbrev jw_Room_insert (E : jE) (q_this q_tape q_entries q_record q_page q_transcript q_planner q_runs q_chord q_outline q_record_keys q_record_firsts q_record_entries q_transcript_chord q_transcript_lasts q_transcript_behinds q_transcript_owners : Nat) (c_record_size : Int32) (c_record_readSoFar : Int32) (c_transcript_size : Int32) (c_transcript_raws : Int32) (c_transcript_settled : Int32) (a_record_keys : (Nat → Int32)) : va_W := [(q_this, .inr (10, [.ref q_tape, .ref q_entries, .ref q_record, .ref q_page, .ref q_transcript, .ref q_planner, .ref q_runs, .ref q_chord, .ref q_outline])), (q_record, .inr (6, [.ref q_entries, .ref q_record_keys, .ref q_record_firsts, .ref q_record_entries, .int c_record_size, .int c_record_readSoFar])), (q_transcript, .inr (9, [.ref q_entries, .ref q_record, .ref q_page, .ref q_transcript_chord, .ref q_transcript_lasts, .ref q_transcript_behinds, .ref q_transcript_owners, .int c_transcript_size, .int c_transcript_raws, .int c_transcript_settled])), (q_record_keys, .inl (E.2.2.1, 300, .inl a_record_keys))]
def jr_Room_insert : Room := { frames := 3, cells := 0, slots := 0, locals := 63 }
set_option maxHeartbeats 4000000 in
set_option maxRecDepth 100000 in
theorem jc_Room_insert (l : Launch) (E : jE) (q_this q_tape q_entries q_record q_page q_transcript q_planner q_runs q_chord q_outline q_record_keys q_record_firsts q_record_entries q_transcript_chord q_transcript_lasts q_transcript_behinds q_transcript_owners : Nat) (c_record_size : Int32) (c_record_readSoFar : Int32) (c_transcript_size : Int32) (c_transcript_raws : Int32) (c_transcript_settled : Int32) (a_record_keys : (Nat → Int32)) (x1 : Int32) (x2 : Int32) (N : Nat) {T : Int32 × Int32 × Int32 × Int32 × (Nat → Int32)} (h : jf_Room_insert x1 x2 c_record_size c_record_readSoFar c_transcript_settled a_record_keys = some T) : jMi l yX10_insert wsX10_insert jr_Room_insert E [.ref q_this, .int x1, .int x2] (jw_Room_insert E q_this q_tape q_entries q_record q_page q_transcript q_planner q_runs q_chord q_outline q_record_keys q_record_firsts q_record_entries q_transcript_chord q_transcript_lasts q_transcript_behinds q_transcript_owners c_record_size c_record_readSoFar c_transcript_size c_transcript_raws c_transcript_settled a_record_keys) (T.1) (jw_Room_insert E q_this q_tape q_entries q_record q_page q_transcript q_planner q_runs q_chord q_outline q_record_keys q_record_firsts q_record_entries q_transcript_chord q_transcript_lasts q_transcript_behinds q_transcript_owners T.2.1 T.2.2.1 c_transcript_size c_transcript_raws T.2.2.2.1 T.2.2.2.2) := by
  refine jMi.begin (cc := cX10_insert) (maxL := 4) (ret := (some .boolean)) (by decide) rfl (Nat.le_of_ble_eq_true rfl) ?_
  intro p e s m args below meth c A ls Q hQ hx hb hr hml hown hlocks hts hK hA hP hD hS hl
  replace hown : s.vm.findClass RX10 = some m.cls := hown
  replace hl : lv_has ls 4 [(0, .ref q_this), (1, .int x1), (2, .int x2)] := hl
  have hin10 : ∀ w ∈ u_ws RX10 TX10 9, w ∈ wsX10_insert := by decide +kernel
  have hk_28 := hts (.fieldLink RX10 28 "StenoRoom" "record" "LStenoRoom$Reading;") (by decide +kernel)
  have kb27 : ∀ (z0 : Int32) (c_record_size : Int32) (c_record_readSoFar : Int32) (c_transcript_settled : Int32) (a_record_keys : (Nat → Int32)) (H : Heap) (locs : List Loc) (ls : Array Slot), jf_Room_insert_b27 x1 x2 z0 c_record_size c_record_readSoFar c_transcript_settled a_record_keys = some T → va_P E.1 vwCl (jw_Room_insert E q_this q_tape q_entries q_record q_page q_transcript q_planner q_runs q_chord q_outline q_record_keys q_record_firsts q_record_entries q_transcript_chord q_transcript_lasts q_transcript_behinds q_transcript_owners c_record_size c_record_readSoFar c_transcript_size c_transcript_raws c_transcript_settled a_record_keys) H → va_D A (jw_Room_insert E q_this q_tape q_entries q_record q_page q_transcript q_planner q_runs q_chord q_outline q_record_keys q_record_firsts q_record_entries q_transcript_chord q_transcript_lasts q_transcript_behinds q_transcript_owners c_record_size c_record_readSoFar c_transcript_size c_transcript_raws c_transcript_settled a_record_keys) → va_S A s.heap H locs → lv_has ls 4 [(0, .ref q_this), (1, .int x1), (2, .int x2)] → W p l e jr_Room_insert s m args below meth c H locs 0 0 Q (F0 m 27 ls [.int z0]) := by
    intro  z0 c_record_size c_record_readSoFar c_transcript_settled a_record_keys H locs ls h hP hD hS hl
    unfold jf_Room_insert_b27 at h
    refine lv_istore_n (lv' := [(3, .int z0), (0, .ref q_this), (1, .int x1), (2, .int x2)]) hx hb dX10_insert_27 rfl hl (by decide) rfl (fun ls hl => ?_)
    refine lv_iload_n hx hb dX10_insert_28 rfl (lv_at hl 0 rfl) ?_
    refine lv_if_eq (tgt := 49) hx hb dX10_insert_29 (by decide) (fun hq29 => ?_) (fun hq29 => ?_)
    · replace h := jif_t hq29 h
      refine lv_iconst (v := 0) hx hb dX10_insert_49 (by decide) ?_
      exact j_iret (u := (0, c_record_size, c_record_readSoFar, c_transcript_settled, a_record_keys)) (rv := (fun T => T.1)) (wv := (fun T => (jw_Room_insert E q_this q_tape q_entries q_record q_page q_transcript q_planner q_runs q_chord q_outline q_record_keys q_record_firsts q_record_entries q_transcript_chord q_transcript_lasts q_transcript_behinds q_transcript_owners T.2.1 T.2.2.1 c_transcript_size c_transcript_raws T.2.2.2.1 T.2.2.2.2))) h hQ hx hb hr jb_0 hlocks hS hP hD dX10_insert_50
    · replace h := jif_f hq29 h
      refine lv_iload_n hx hb dX10_insert_32 rfl (lv_at hl 3 rfl) ?_
      obtain ⟨r33, hf33, h⟩ := jbd h
      refine j_callSi (own := RX10) (As := [.int x2]) (rest := []) hx hb hml hown hts hK hA hP hD hS (jc_Room_isStroke l E x2 N hf33) gX10_insert_X10_isStroke rfl ⟨rfl, rfl⟩ 1 (by decide +kernel) rfl rfl [] [0, 1, 2, 3] [0, 1, 2, 3] rfl rfl rfl rfl rfl rfl rfl hl.1 rfl rfl dX10_insert_33 (fun H locs hP hD hS => ?_)
      replace hP : va_P E.1 vwCl (jw_Room_insert E q_this q_tape q_entries q_record q_page q_transcript q_planner q_runs q_chord q_outline q_record_keys q_record_firsts q_record_entries q_transcript_chord q_transcript_lasts q_transcript_behinds q_transcript_owners c_record_size c_record_readSoFar c_transcript_size c_transcript_raws c_transcript_settled a_record_keys) H := hP
      replace hD : va_D A (jw_Room_insert E q_this q_tape q_entries q_record q_page q_transcript q_planner q_runs q_chord q_outline q_record_keys q_record_firsts q_record_entries q_transcript_chord q_transcript_lasts q_transcript_behinds q_transcript_owners c_record_size c_record_readSoFar c_transcript_size c_transcript_raws c_transcript_settled a_record_keys) := hD
      refine lv_if_eq (tgt := 49) hx hb dX10_insert_36 (by decide) (fun hq36 => ?_) (fun hq36 => ?_)
      · replace h := jif_t hq36 h
        refine lv_iconst (v := 0) hx hb dX10_insert_49 (by decide) ?_
        exact j_iret (u := (0, c_record_size, c_record_readSoFar, c_transcript_settled, a_record_keys)) (rv := (fun T => T.1)) (wv := (fun T => (jw_Room_insert E q_this q_tape q_entries q_record q_page q_transcript q_planner q_runs q_chord q_outline q_record_keys q_record_firsts q_record_entries q_transcript_chord q_transcript_lasts q_transcript_behinds q_transcript_owners T.2.1 T.2.2.1 c_transcript_size c_transcript_raws T.2.2.2.1 T.2.2.2.2))) h hQ hx hb hr jb_0 hlocks hS hP hD dX10_insert_50
      · replace h := jif_f hq36 h
        refine lv_aload_n hx hb dX10_insert_39 rfl (lv_at hl 1 rfl) ?_
        refine va_get (D := E.1) (ci := 10) (v := .ref q_record) (C := RX10) (T := TX10) (N := 9) hx hb hts hin10 hown hK.1 hP 0 rfl rfl 2 (by decide) hk_28 (fun _ h9 => h9) rfl dX10_insert_40 ?_
        obtain ⟨r43, hf43, h⟩ := jbd h
        refine j_callVi (own := RX10) (As := []) (rest := []) hx hb hml hown hts hK hA hP hD hS (jc_Reading_isFull l E q_record q_entries q_record_keys q_record_firsts q_record_entries c_record_size c_record_readSoFar N hf43) gX10_insert_X6_isFull rfl ⟨rfl, rfl⟩ 0 (by decide +kernel) rfl rfl 1 6 rfl rfl [1] [0, 2, 3] [0, 3, 1, 2] rfl rfl rfl rfl rfl rfl rfl hl.1 rfl rfl dX10_insert_43 (fun H locs hP hD hS => ?_)
        replace hP : va_P E.1 vwCl (jw_Room_insert E q_this q_tape q_entries q_record q_page q_transcript q_planner q_runs q_chord q_outline q_record_keys q_record_firsts q_record_entries q_transcript_chord q_transcript_lasts q_transcript_behinds q_transcript_owners c_record_size c_record_readSoFar c_transcript_size c_transcript_raws c_transcript_settled a_record_keys) H := hP
        replace hD : va_D A (jw_Room_insert E q_this q_tape q_entries q_record q_page q_transcript q_planner q_runs q_chord q_outline q_record_keys q_record_firsts q_record_entries q_transcript_chord q_transcript_lasts q_transcript_behinds q_transcript_owners c_record_size c_record_readSoFar c_transcript_size c_transcript_raws c_transcript_settled a_record_keys) := hD
        refine lv_if_eq (tgt := 51) hx hb dX10_insert_46 (by decide) (fun hq46 => ?_) (fun hq46 => ?_)
        · replace h := jif_t hq46 h
          refine lv_aload_n hx hb dX10_insert_51 rfl (lv_at hl 1 rfl) ?_
          refine va_get (D := E.1) (ci := 10) (v := .ref q_record) (C := RX10) (T := TX10) (N := 9) hx hb hts hin10 hown hK.1 hP 0 rfl rfl 2 (by decide) hk_28 (fun _ h9 => h9) rfl dX10_insert_52 ?_
          refine lv_iload_n hx hb dX10_insert_55 rfl (lv_at hl 2 rfl) ?_
          refine lv_iload_n hx hb dX10_insert_56 rfl (lv_at hl 3 rfl) ?_
          obtain ⟨⟨c_record_size_57, a_record_keys_57⟩, hf57, h⟩ := jbd h
          refine j_callVv (own := RX10) (As := [.int x1, .int x2]) (rest := []) hx hb hml hown hts hK hA hP hD hS (jc_Reading_put l E q_record q_entries q_record_keys q_record_firsts q_record_entries c_record_size c_record_readSoFar a_record_keys x1 x2 N hf57) gX10_insert_X6_put rfl ⟨rfl, rfl⟩ 2 (by decide +kernel) rfl rfl 1 6 rfl rfl [1, 3] [0, 2] [0, 2, 1, 3] rfl rfl rfl rfl rfl rfl rfl hl.1 rfl rfl dX10_insert_57 (fun H locs hP hD hS => ?_)
          replace hP : va_P E.1 vwCl (jw_Room_insert E q_this q_tape q_entries q_record q_page q_transcript q_planner q_runs q_chord q_outline q_record_keys q_record_firsts q_record_entries q_transcript_chord q_transcript_lasts q_transcript_behinds q_transcript_owners c_record_size_57 c_record_readSoFar c_transcript_size c_transcript_raws c_transcript_settled a_record_keys_57) H := hP
          replace hD : va_D A (jw_Room_insert E q_this q_tape q_entries q_record q_page q_transcript q_planner q_runs q_chord q_outline q_record_keys q_record_firsts q_record_entries q_transcript_chord q_transcript_lasts q_transcript_behinds q_transcript_owners c_record_size_57 c_record_readSoFar c_transcript_size c_transcript_raws c_transcript_settled a_record_keys_57) := hD
          refine lv_aload_n hx hb dX10_insert_60 rfl (lv_at hl 1 rfl) ?_
          refine lv_iload_n hx hb dX10_insert_61 rfl (lv_at hl 2 rfl) ?_
          obtain ⟨⟨c_record_readSoFar_62, c_transcript_settled_62⟩, hf62, h⟩ := jbd h
          refine j_callVv (own := RX10) (As := [.int x1]) (rest := []) hx hb hml hown hts hK hA hP hD hS (jc_Room_readAnew l E q_this q_tape q_entries q_record q_page q_transcript q_planner q_runs q_chord q_outline q_record_keys q_record_firsts q_record_entries q_transcript_chord q_transcript_lasts q_transcript_behinds q_transcript_owners c_record_size_57 c_record_readSoFar c_transcript_size c_transcript_raws c_transcript_settled x1 N hf62) gX10_insert_X10_readAnew rfl ⟨rfl, rfl⟩ 1 (by decide +kernel) rfl rfl 0 10 rfl rfl [0, 1, 2] [3] [1, 2, 3, 0] rfl rfl rfl rfl rfl rfl rfl hl.1 rfl rfl dX10_insert_62 (fun H locs hP hD hS => ?_)
          replace hP : va_P E.1 vwCl (jw_Room_insert E q_this q_tape q_entries q_record q_page q_transcript q_planner q_runs q_chord q_outline q_record_keys q_record_firsts q_record_entries q_transcript_chord q_transcript_lasts q_transcript_behinds q_transcript_owners c_record_size_57 c_record_readSoFar_62 c_transcript_size c_transcript_raws c_transcript_settled_62 a_record_keys_57) H := hP
          replace hD : va_D A (jw_Room_insert E q_this q_tape q_entries q_record q_page q_transcript q_planner q_runs q_chord q_outline q_record_keys q_record_firsts q_record_entries q_transcript_chord q_transcript_lasts q_transcript_behinds q_transcript_owners c_record_size_57 c_record_readSoFar_62 c_transcript_size c_transcript_raws c_transcript_settled_62 a_record_keys_57) := hD
          refine lv_iconst (v := 1) hx hb dX10_insert_65 (by decide) ?_
          exact j_iret (u := (1, c_record_size_57, c_record_readSoFar_62, c_transcript_settled_62, a_record_keys_57)) (rv := (fun T => T.1)) (wv := (fun T => (jw_Room_insert E q_this q_tape q_entries q_record q_page q_transcript q_planner q_runs q_chord q_outline q_record_keys q_record_firsts q_record_entries q_transcript_chord q_transcript_lasts q_transcript_behinds q_transcript_owners T.2.1 T.2.2.1 c_transcript_size c_transcript_raws T.2.2.2.1 T.2.2.2.2))) h hQ hx hb hr jb_1 hlocks hS hP hD dX10_insert_66
        · replace h := jif_f hq46 h
          refine lv_iconst (v := 0) hx hb dX10_insert_49 (by decide) ?_
          exact j_iret (u := (0, c_record_size, c_record_readSoFar, c_transcript_settled, a_record_keys)) (rv := (fun T => T.1)) (wv := (fun T => (jw_Room_insert E q_this q_tape q_entries q_record q_page q_transcript q_planner q_runs q_chord q_outline q_record_keys q_record_firsts q_record_entries q_transcript_chord q_transcript_lasts q_transcript_behinds q_transcript_owners T.2.1 T.2.2.1 c_transcript_size c_transcript_raws T.2.2.2.1 T.2.2.2.2))) h hQ hx hb hr jb_0 hlocks hS hP hD dX10_insert_50
  have kb22 : ∀ (c_record_size : Int32) (c_record_readSoFar : Int32) (c_transcript_settled : Int32) (a_record_keys : (Nat → Int32)) (H : Heap) (locs : List Loc) (ls : Array Slot), jf_Room_insert_b22 x1 x2 c_record_size c_record_readSoFar c_transcript_settled a_record_keys = some T → va_P E.1 vwCl (jw_Room_insert E q_this q_tape q_entries q_record q_page q_transcript q_planner q_runs q_chord q_outline q_record_keys q_record_firsts q_record_entries q_transcript_chord q_transcript_lasts q_transcript_behinds q_transcript_owners c_record_size c_record_readSoFar c_transcript_size c_transcript_raws c_transcript_settled a_record_keys) H → va_D A (jw_Room_insert E q_this q_tape q_entries q_record q_page q_transcript q_planner q_runs q_chord q_outline q_record_keys q_record_firsts q_record_entries q_transcript_chord q_transcript_lasts q_transcript_behinds q_transcript_owners c_record_size c_record_readSoFar c_transcript_size c_transcript_raws c_transcript_settled a_record_keys) → va_S A s.heap H locs → lv_has ls 4 [(0, .ref q_this), (1, .int x1), (2, .int x2)] → W p l e jr_Room_insert s m args below meth c H locs 0 0 Q (F0 m 22 ls []) := by
    intro  c_record_size c_record_readSoFar c_transcript_settled a_record_keys H locs ls h hP hD hS hl
    unfold jf_Room_insert_b22 at h
    refine lv_iconst (v := 1) hx hb dX10_insert_22 (by decide) ?_
    refine lv_goto (tgt := 27) hx hb dX10_insert_23 (by decide) ?_
    exact kb27   1 c_record_size c_record_readSoFar c_transcript_settled a_record_keys _ _ _ h hP hD hS (lv_sub hl [0, 1, 2] rfl)
  unfold jf_Room_insert at h
  refine lv_iload_n hx hb dX10_insert_0 rfl (lv_at hl 1 rfl) ?_
  refine lv_aload_n hx hb dX10_insert_1 rfl (lv_at hl 0 rfl) ?_
  refine va_get (D := E.1) (ci := 10) (v := .ref q_record) (C := RX10) (T := TX10) (N := 9) hx hb hts hin10 hown hK.1 hP 0 rfl rfl 2 (by decide) hk_28 (fun _ h9 => h9) rfl dX10_insert_2 ?_
  obtain ⟨r5, hf5, h⟩ := jbd h
  refine j_callVi (own := RX10) (As := []) (rest := [.int x1]) hx hb hml hown hts hK hA hP hD hS (jc_Reading_size l E q_record q_entries q_record_keys q_record_firsts q_record_entries c_record_size c_record_readSoFar N hf5) gX10_insert_X6_size rfl ⟨rfl, rfl⟩ 0 (by decide +kernel) rfl rfl 1 6 rfl rfl [1] [0, 2, 3] [0, 3, 1, 2] rfl rfl rfl rfl rfl rfl rfl hl.1 rfl rfl dX10_insert_5 (fun H locs hP hD hS => ?_)
  replace hP : va_P E.1 vwCl (jw_Room_insert E q_this q_tape q_entries q_record q_page q_transcript q_planner q_runs q_chord q_outline q_record_keys q_record_firsts q_record_entries q_transcript_chord q_transcript_lasts q_transcript_behinds q_transcript_owners c_record_size c_record_readSoFar c_transcript_size c_transcript_raws c_transcript_settled a_record_keys) H := hP
  replace hD : va_D A (jw_Room_insert E q_this q_tape q_entries q_record q_page q_transcript q_planner q_runs q_chord q_outline q_record_keys q_record_firsts q_record_entries q_transcript_chord q_transcript_lasts q_transcript_behinds q_transcript_owners c_record_size c_record_readSoFar c_transcript_size c_transcript_raws c_transcript_settled a_record_keys) := hD
  refine lv_icmp_eq (tgt := 22) hx hb dX10_insert_8 (by decide) (fun hq8 => ?_) (fun hq8 => ?_)
  · replace h := jif_t hq8 h
    exact kb22   c_record_size c_record_readSoFar c_transcript_settled a_record_keys _ _ _ h hP hD hS (lv_sub hl [0, 1, 2] rfl)
  · replace h := jif_f hq8 h
    refine lv_aload_n hx hb dX10_insert_11 rfl (lv_at hl 0 rfl) ?_
    refine va_get (D := E.1) (ci := 10) (v := .ref q_record) (C := RX10) (T := TX10) (N := 9) hx hb hts hin10 hown hK.1 hP 0 rfl rfl 2 (by decide) hk_28 (fun _ h9 => h9) rfl dX10_insert_12 ?_
    refine lv_iload_n hx hb dX10_insert_15 rfl (lv_at hl 1 rfl) ?_
    obtain ⟨r16, hf16, h⟩ := jbd h
    refine j_callVi (own := RX10) (As := [.int x1]) (rest := []) hx hb hml hown hts hK hA hP hD hS (jc_Reading_has l E q_record q_entries q_record_keys q_record_firsts q_record_entries c_record_size c_record_readSoFar x1 N hf16) gX10_insert_X6_has rfl ⟨rfl, rfl⟩ 1 (by decide +kernel) rfl rfl 1 6 rfl rfl [1] [0, 2, 3] [0, 3, 1, 2] rfl rfl rfl rfl rfl rfl rfl hl.1 rfl rfl dX10_insert_16 (fun H locs hP hD hS => ?_)
    replace hP : va_P E.1 vwCl (jw_Room_insert E q_this q_tape q_entries q_record q_page q_transcript q_planner q_runs q_chord q_outline q_record_keys q_record_firsts q_record_entries q_transcript_chord q_transcript_lasts q_transcript_behinds q_transcript_owners c_record_size c_record_readSoFar c_transcript_size c_transcript_raws c_transcript_settled a_record_keys) H := hP
    replace hD : va_D A (jw_Room_insert E q_this q_tape q_entries q_record q_page q_transcript q_planner q_runs q_chord q_outline q_record_keys q_record_firsts q_record_entries q_transcript_chord q_transcript_lasts q_transcript_behinds q_transcript_owners c_record_size c_record_readSoFar c_transcript_size c_transcript_raws c_transcript_settled a_record_keys) := hD
    refine lv_if_eq (tgt := 26) hx hb dX10_insert_19 (by decide) (fun hq19 => ?_) (fun hq19 => ?_)
    · replace h := jif_t hq19 h
      refine lv_iconst (v := 0) hx hb dX10_insert_26 (by decide) ?_
      exact kb27   0 c_record_size c_record_readSoFar c_transcript_settled a_record_keys _ _ _ h hP hD hS (lv_sub hl [0, 1, 2] rfl)
    · replace h := jif_f hq19 h
      exact kb22   c_record_size c_record_readSoFar c_transcript_settled a_record_keys _ _ _ h hP hD hS (lv_sub hl [0, 1, 2] rfl)
abbrev jw_Reading_lengthsAt (E : jE) (q_this q_book q_keys q_firsts q_entries : Nat) (c_size : Int32) (c_readSoFar : Int32) (a_firsts : (Nat → Int32)) : va_W := [(q_this, .inr (6, [.ref q_book, .ref q_keys, .ref q_firsts, .ref q_entries, .int c_size, .int c_readSoFar])), (q_firsts, .inl (E.2.2.1, 300, .inl a_firsts))]
def jr_Reading_lengthsAt : Room := { frames := 0, cells := 0, slots := 0, locals := 0 }
set_option maxHeartbeats 4000000 in
set_option maxRecDepth 100000 in
theorem jc_Reading_lengthsAt (l : Launch) (E : jE) (q_this q_book q_keys q_firsts q_entries : Nat) (c_size : Int32) (c_readSoFar : Int32) (a_firsts : (Nat → Int32)) (x1 : Int32) (N : Nat) {T : Int32} (h : jf_Reading_lengthsAt N x1 a_firsts = some T) : jMi l yX6_lengthsAt wsX6_lengthsAt jr_Reading_lengthsAt E [.ref q_this, .int x1] (jw_Reading_lengthsAt E q_this q_book q_keys q_firsts q_entries c_size c_readSoFar a_firsts) (T) (jw_Reading_lengthsAt E q_this q_book q_keys q_firsts q_entries c_size c_readSoFar a_firsts) := by
  refine jMi.begin (cc := cX6_lengthsAt) (maxL := 5) (ret := (some .int)) (by decide) rfl (Nat.le_of_ble_eq_true rfl) ?_
  intro p e s m args below meth c A ls Q hQ hx hb hr hml hown hlocks hts hK hA hP hD hS hl
  replace hown : s.vm.findClass RX6 = some m.cls := hown
  replace hl : lv_has ls 5 [(0, .ref q_this), (1, .int x1)] := hl
  have hin6 : ∀ w ∈ u_ws RX6 TX6 6, w ∈ wsX6_lengthsAt := by decide +kernel
  have hk_15 := hts (.fieldLink RX6 15 "StenoRoom$Reading" "firsts" "[I") (by decide +kernel)
  have kb51 : ∀ (k7 : Int32 → Int32 → Int32 → Option (Int32)) (hk7 : ∀ (x2 : Int32) (x3 : Int32) (x4 : Int32) (H : Heap) (locs : List Loc) (ls : Array Slot), k7 x2 x3 x4 = some T → va_P E.1 vwCl (jw_Reading_lengthsAt E q_this q_book q_keys q_firsts q_entries c_size c_readSoFar a_firsts) H → va_D A (jw_Reading_lengthsAt E q_this q_book q_keys q_firsts q_entries c_size c_readSoFar a_firsts) → va_S A s.heap H locs → lv_has ls 5 [(0, .ref q_this), (1, .int x1), (2, .int x2), (3, .int x3), (4, .int x4)] → W p l e jr_Reading_lengthsAt s m args below meth c H locs 0 0 Q (F0 m 7 ls [])) (x2 : Int32) (x3 : Int32) (x4 : Int32) (H : Heap) (locs : List Loc) (ls : Array Slot), jf_Reading_lengthsAt_b51 k7 x2 x3 x4 = some T → va_P E.1 vwCl (jw_Reading_lengthsAt E q_this q_book q_keys q_firsts q_entries c_size c_readSoFar a_firsts) H → va_D A (jw_Reading_lengthsAt E q_this q_book q_keys q_firsts q_entries c_size c_readSoFar a_firsts) → va_S A s.heap H locs → lv_has ls 5 [(0, .ref q_this), (1, .int x1), (2, .int x2), (3, .int x3), (4, .int x4)] → W p l e jr_Reading_lengthsAt s m args below meth c H locs 0 0 Q (F0 m 51 ls []) := by
    intro k7 hk7 x2 x3 x4 H locs ls h hP hD hS hl
    unfold jf_Reading_lengthsAt_b51 at h
    refine lv_iinc (v := (x4 + 1)) (lv' := [(4, .int (x4 + 1)), (0, .ref q_this), (1, .int x1), (2, .int x2), (3, .int x3)]) hx hb dX6_lengthsAt_51 hl (k := 4) rfl rfl (by decide) rfl (fun ls hl => ?_)
    refine lv_goto (tgt := 7) hx hb dX6_lengthsAt_54 (by decide) ?_
    exact hk7 x2 x3 (x4 + 1) _ _ _ h hP hD hS (lv_sub hl [1, 2, 3, 4, 0] rfl)
  have kb50 : ∀ (k7 : Int32 → Int32 → Int32 → Option (Int32)) (hk7 : ∀ (x2 : Int32) (x3 : Int32) (x4 : Int32) (H : Heap) (locs : List Loc) (ls : Array Slot), k7 x2 x3 x4 = some T → va_P E.1 vwCl (jw_Reading_lengthsAt E q_this q_book q_keys q_firsts q_entries c_size c_readSoFar a_firsts) H → va_D A (jw_Reading_lengthsAt E q_this q_book q_keys q_firsts q_entries c_size c_readSoFar a_firsts) → va_S A s.heap H locs → lv_has ls 5 [(0, .ref q_this), (1, .int x1), (2, .int x2), (3, .int x3), (4, .int x4)] → W p l e jr_Reading_lengthsAt s m args below meth c H locs 0 0 Q (F0 m 7 ls [])) (x2 : Int32) (x4 : Int32) (z0 : Int32) (H : Heap) (locs : List Loc) (ls : Array Slot), jf_Reading_lengthsAt_b50 k7 x2 x4 z0 = some T → va_P E.1 vwCl (jw_Reading_lengthsAt E q_this q_book q_keys q_firsts q_entries c_size c_readSoFar a_firsts) H → va_D A (jw_Reading_lengthsAt E q_this q_book q_keys q_firsts q_entries c_size c_readSoFar a_firsts) → va_S A s.heap H locs → lv_has ls 5 [(0, .ref q_this), (1, .int x1), (2, .int x2), (4, .int x4)] → W p l e jr_Reading_lengthsAt s m args below meth c H locs 0 0 Q (F0 m 50 ls [.int z0]) := by
    intro k7 hk7 x2 x4 z0 H locs ls h hP hD hS hl
    unfold jf_Reading_lengthsAt_b50 at h
    refine lv_istore_n (lv' := [(3, .int z0), (0, .ref q_this), (1, .int x1), (2, .int x2), (4, .int x4)]) hx hb dX6_lengthsAt_50 rfl hl (by decide) rfl (fun ls hl => ?_)
    exact kb51 k7 hk7  x2 z0 x4 _ _ _ h hP hD hS (lv_sub hl [1, 2, 3, 0, 4] rfl)
  have kb7 : ∀ (n : Nat) (x2 : Int32) (x3 : Int32) (x4 : Int32) (H : Heap) (locs : List Loc) (ls : Array Slot), jf_Reading_lengthsAt_b7 x1 a_firsts n x2 x3 x4 = some T → va_P E.1 vwCl (jw_Reading_lengthsAt E q_this q_book q_keys q_firsts q_entries c_size c_readSoFar a_firsts) H → va_D A (jw_Reading_lengthsAt E q_this q_book q_keys q_firsts q_entries c_size c_readSoFar a_firsts) → va_S A s.heap H locs → lv_has ls 5 [(0, .ref q_this), (1, .int x1), (2, .int x2), (3, .int x3), (4, .int x4)] → W p l e jr_Reading_lengthsAt s m args below meth c H locs 0 0 Q (F0 m 7 ls []) := by
    intro n
    induction n with
    | zero => intro x2 x3 x4 H locs ls h; exact j_none (α := Int32) h
    | succ n ih =>
      intro x2 x3 x4 H locs ls h hP hD hS hl
      rw [jf_Reading_lengthsAt_b7] at h
      refine lv_iload hx hb dX6_lengthsAt_7 (lv_at hl 4 rfl) ?_
      refine lv_iconst (v := 5) hx hb dX6_lengthsAt_9 (by decide) ?_
      refine lv_icmp_gt (tgt := 57) hx hb dX6_lengthsAt_10 (by decide) (fun hq10 => ?_) (fun hq10 => ?_)
      · replace h := jif_t hq10 h
        refine lv_iload_n hx hb dX6_lengthsAt_57 rfl (lv_at hl 2 rfl) ?_
        exact j_iret (u := x2) (rv := (fun T => T)) (wv := (fun _ => (jw_Reading_lengthsAt E q_this q_book q_keys q_firsts q_entries c_size c_readSoFar a_firsts))) h hQ hx hb hr rfl hlocks hS hP hD dX6_lengthsAt_58
      · replace h := jif_f hq10 h
        refine lv_iload_n hx hb dX6_lengthsAt_13 rfl (lv_at hl 3 rfl) ?_
        refine lv_if_lt (tgt := 57) hx hb dX6_lengthsAt_14 (by decide) (fun hq14 => ?_) (fun hq14 => ?_)
        · replace h := jif_t hq14 h
          refine lv_iload_n hx hb dX6_lengthsAt_57 rfl (lv_at hl 2 rfl) ?_
          exact j_iret (u := x2) (rv := (fun T => T)) (wv := (fun _ => (jw_Reading_lengthsAt E q_this q_book q_keys q_firsts q_entries c_size c_readSoFar a_firsts))) h hQ hx hb hr rfl hlocks hS hP hD dX6_lengthsAt_58
        · replace h := jif_f hq14 h
          refine lv_iload_n hx hb dX6_lengthsAt_17 rfl (lv_at hl 1 rfl) ?_
          refine lv_iload_n hx hb dX6_lengthsAt_18 rfl (lv_at hl 3 rfl) ?_
          refine lv_isub hx hb dX6_lengthsAt_19 ?_
          refine lv_iconst (v := 1) hx hb dX6_lengthsAt_20 (by decide) ?_
          refine lv_iadd hx hb dX6_lengthsAt_21 ?_
          refine lv_iload hx hb dX6_lengthsAt_22 (lv_at hl 4 rfl) ?_
          refine lv_icmp_ne (tgt := 51) hx hb dX6_lengthsAt_24 (by decide) (fun hq24 => ?_) (fun hq24 => ?_)
          · replace h := jif_f hq24 h
            exact kb51 (jf_Reading_lengthsAt_b7 x1 a_firsts n) ih  x2 x3 x4 _ _ _ h hP hD hS (lv_sub hl [0, 1, 2, 3, 4] rfl)
          · replace h := jif_t hq24 h
            refine lv_iload_n hx hb dX6_lengthsAt_27 rfl (lv_at hl 2 rfl) ?_
            refine lv_iconst (v := 1) hx hb dX6_lengthsAt_28 (by decide) ?_
            refine lv_iload hx hb dX6_lengthsAt_29 (lv_at hl 4 rfl) ?_
            refine lv_ishl hx hb dX6_lengthsAt_31 ?_
            refine lv_ior hx hb dX6_lengthsAt_32 ?_
            refine lv_istore_n (lv' := [(2, .int (x2 ||| (1 <<< (x4 &&& 31)))), (0, .ref q_this), (1, .int x1), (3, .int x3), (4, .int x4)]) hx hb dX6_lengthsAt_33 rfl hl (by decide) rfl (fun ls hl => ?_)
            refine lv_iload_n hx hb dX6_lengthsAt_34 rfl (lv_at hl 3 rfl) ?_
            refine lv_if_le (tgt := 49) hx hb dX6_lengthsAt_35 (by decide) (fun hq35 => ?_) (fun hq35 => ?_)
            · replace h := jif_t hq35 h
              refine lv_iconst (v := (-1)) hx hb dX6_lengthsAt_49 (by decide) ?_
              exact kb50 (jf_Reading_lengthsAt_b7 x1 a_firsts n) ih  (x2 ||| (1 <<< (x4 &&& 31))) x4 (-1) _ _ _ h hP hD hS (lv_sub hl [1, 2, 0, 4] rfl)
            · replace h := jif_f hq35 h
              refine lv_aload_n hx hb dX6_lengthsAt_38 rfl (lv_at hl 1 rfl) ?_
              refine va_get (D := E.1) (ci := 6) (v := .ref q_firsts) (C := RX6) (T := TX6) (N := 6) hx hb hts hin6 hown hK.1 hP 0 rfl rfl 2 (by decide) hk_15 (fun _ h9 => h9) rfl dX6_lengthsAt_39 ?_
              refine lv_iload_n hx hb dX6_lengthsAt_42 rfl (lv_at hl 3 rfl) ?_
              refine lv_iconst (v := 1) hx hb dX6_lengthsAt_43 (by decide) ?_
              refine lv_isub hx hb dX6_lengthsAt_44 ?_
              obtain ⟨g45, h⟩ := jga_e h
              refine va_iald hx hb hK.1 hP 1 1 rfl rfl g45 dX6_lengthsAt_45 ?_
              refine lv_goto (tgt := 50) hx hb dX6_lengthsAt_46 (by decide) ?_
              exact kb50 (jf_Reading_lengthsAt_b7 x1 a_firsts n) ih  (x2 ||| (1 <<< (x4 &&& 31))) x4 (a_firsts (x3 - 1).toNatClampNeg) _ _ _ h hP hD hS (lv_sub hl [1, 2, 0, 4] rfl)
  unfold jf_Reading_lengthsAt at h
  refine lv_iconst (v := 0) hx hb dX6_lengthsAt_0 (by decide) ?_
  refine lv_istore_n (lv' := [(2, .int 0), (0, .ref q_this), (1, .int x1)]) hx hb dX6_lengthsAt_1 rfl hl (by decide) rfl (fun ls hl => ?_)
  refine lv_iload_n hx hb dX6_lengthsAt_2 rfl (lv_at hl 2 rfl) ?_
  refine lv_istore_n (lv' := [(3, .int x1), (2, .int 0), (0, .ref q_this), (1, .int x1)]) hx hb dX6_lengthsAt_3 rfl hl (by decide) rfl (fun ls hl => ?_)
  refine lv_iconst (v := 1) hx hb dX6_lengthsAt_4 (by decide) ?_
  refine lv_istore (lv' := [(4, .int 1), (3, .int x1), (2, .int 0), (0, .ref q_this), (1, .int x1)]) hx hb dX6_lengthsAt_5 hl (by decide) rfl (fun ls hl => ?_)
  exact kb7  N 0 x1 1 _ _ _ h hP hD hS (lv_sub hl [3, 4, 2, 1, 0] rfl)
abbrev jw_Reading_readStroke (E : jE) (q_this q_book q_keys q_firsts q_entries q_book_kinds q_book_strokeCounts q_book_strokes q_book_lengths q_book_letters : Nat) (c_size : Int32) (c_readSoFar : Int32) (c_book_size : Int32) (a_book_strokeCounts : (Nat → Int32)) (a_book_strokes : (Nat → Int32)) (a_entries : (Nat → Int32)) (a_firsts : (Nat → Int32)) (a_keys : (Nat → Int32)) : va_W := [(q_this, .inr (6, [.ref q_book, .ref q_keys, .ref q_firsts, .ref q_entries, .int c_size, .int c_readSoFar])), (q_book, .inr (0, [.ref q_book_kinds, .ref q_book_strokeCounts, .ref q_book_strokes, .ref q_book_lengths, .ref q_book_letters, .int c_book_size])), (q_book_strokeCounts, .inl (E.2.2.1, 60, .inl a_book_strokeCounts)), (q_book_strokes, .inl (E.2.2.1, 300, .inl a_book_strokes)), (q_entries, .inl (E.2.2.1, 300, .inl a_entries)), (q_firsts, .inl (E.2.2.1, 300, .inl a_firsts)), (q_keys, .inl (E.2.2.1, 300, .inl a_keys))]
def jr_Reading_readStroke : Room := { frames := 2, cells := 0, slots := 0, locals := 46 }
set_option maxHeartbeats 4000000 in
set_option maxRecDepth 100000 in
theorem jc_Reading_readStroke (l : Launch) (E : jE) (q_this q_book q_keys q_firsts q_entries q_book_kinds q_book_strokeCounts q_book_strokes q_book_lengths q_book_letters : Nat) (c_size : Int32) (c_readSoFar : Int32) (c_book_size : Int32) (a_book_strokeCounts : (Nat → Int32)) (a_book_strokes : (Nat → Int32)) (a_entries : (Nat → Int32)) (a_firsts : (Nat → Int32)) (a_keys : (Nat → Int32)) (x1 : Int32) (N : Nat) {T : (Nat → Int32) × (Nat → Int32)} (h : jf_Reading_readStroke N x1 c_book_size a_book_strokeCounts a_book_strokes a_keys a_entries a_firsts = some T) : jMv l yX6_readStroke wsX6_readStroke jr_Reading_readStroke E [.ref q_this, .int x1] (jw_Reading_readStroke E q_this q_book q_keys q_firsts q_entries q_book_kinds q_book_strokeCounts q_book_strokes q_book_lengths q_book_letters c_size c_readSoFar c_book_size a_book_strokeCounts a_book_strokes a_entries a_firsts a_keys) (jw_Reading_readStroke E q_this q_book q_keys q_firsts q_entries q_book_kinds q_book_strokeCounts q_book_strokes q_book_lengths q_book_letters c_size c_readSoFar c_book_size a_book_strokeCounts a_book_strokes T.1 T.2 a_keys) := by
  refine jMv.begin (cc := cX6_readStroke) (maxL := 8) (ret := none) (by decide) rfl (Nat.le_of_ble_eq_true rfl) ?_
  intro p e s m args below meth c A ls Q hQ hx hb hr hml hown hlocks hts hK hA hP hD hS hl
  replace hown : s.vm.findClass RX6 = some m.cls := hown
  replace hl : lv_has ls 8 [(0, .ref q_this), (1, .int x1)] := hl
  have hin6 : ∀ w ∈ u_ws RX6 TX6 6, w ∈ wsX6_readStroke := by decide +kernel
  have hk_9 := hts (.fieldLink RX6 9 "StenoRoom$Reading" "keys" "[I") (by decide +kernel)
  have hk_15 := hts (.fieldLink RX6 15 "StenoRoom$Reading" "firsts" "[I") (by decide +kernel)
  have hk_18 := hts (.fieldLink RX6 18 "StenoRoom$Reading" "entries" "[I") (by decide +kernel)
  have hk_21 := hts (.fieldLink RX6 21 "StenoRoom$Reading" "book" "LStenoRoom$Book;") (by decide +kernel)
  have kb128 : ∀ (z1 : Int32) (z2 : Int32) (a_entries : (Nat → Int32)) (a_firsts : (Nat → Int32)) (H : Heap) (locs : List Loc) (ls : Array Slot), jf_Reading_readStroke_b128 z1 z2 a_entries a_firsts = some T → va_P E.1 vwCl (jw_Reading_readStroke E q_this q_book q_keys q_firsts q_entries q_book_kinds q_book_strokeCounts q_book_strokes q_book_lengths q_book_letters c_size c_readSoFar c_book_size a_book_strokeCounts a_book_strokes a_entries a_firsts a_keys) H → va_D A (jw_Reading_readStroke E q_this q_book q_keys q_firsts q_entries q_book_kinds q_book_strokeCounts q_book_strokes q_book_lengths q_book_letters c_size c_readSoFar c_book_size a_book_strokeCounts a_book_strokes a_entries a_firsts a_keys) → va_S A s.heap H locs → lv_has ls 8 [(0, .ref q_this)] → W p l e jr_Reading_readStroke s m args below meth c H locs 0 0 Q (F0 m 128 ls [.int z2, .int z1, .ref q_firsts]) := by
    intro  z1 z2 a_entries a_firsts H locs ls h hP hD hS hl
    unfold jf_Reading_readStroke_b128 at h
    obtain ⟨g128, h⟩ := jga_e h
    refine va_iast hx hb hK.1 hP hD hS 5 1 rfl rfl g128 dX6_readStroke_128 (fun H locs hP hD hS => ?_)
    replace hP : va_P E.1 vwCl (jw_Reading_readStroke E q_this q_book q_keys q_firsts q_entries q_book_kinds q_book_strokeCounts q_book_strokes q_book_lengths q_book_letters c_size c_readSoFar c_book_size a_book_strokeCounts a_book_strokes a_entries (upd a_firsts z1.toNatClampNeg z2) a_keys) H := hP
    replace hD : va_D A (jw_Reading_readStroke E q_this q_book q_keys q_firsts q_entries q_book_kinds q_book_strokeCounts q_book_strokes q_book_lengths q_book_letters c_size c_readSoFar c_book_size a_book_strokeCounts a_book_strokes a_entries (upd a_firsts z1.toNatClampNeg z2) a_keys) := hD
    exact j_vret (u := (a_entries, (upd a_firsts z1.toNatClampNeg z2))) (wv := (fun T => (jw_Reading_readStroke E q_this q_book q_keys q_firsts q_entries q_book_kinds q_book_strokeCounts q_book_strokes q_book_lengths q_book_letters c_size c_readSoFar c_book_size a_book_strokeCounts a_book_strokes T.1 T.2 a_keys))) h hQ hx hb hr hlocks hS hP hD dX6_readStroke_129
  have kb100 : ∀ (x3 : Int32) (x4 : Int32) (a_entries : (Nat → Int32)) (a_firsts : (Nat → Int32)) (H : Heap) (locs : List Loc) (ls : Array Slot), jf_Reading_readStroke_b100 x1 x3 x4 a_entries a_firsts = some T → va_P E.1 vwCl (jw_Reading_readStroke E q_this q_book q_keys q_firsts q_entries q_book_kinds q_book_strokeCounts q_book_strokes q_book_lengths q_book_letters c_size c_readSoFar c_book_size a_book_strokeCounts a_book_strokes a_entries a_firsts a_keys) H → va_D A (jw_Reading_readStroke E q_this q_book q_keys q_firsts q_entries q_book_kinds q_book_strokeCounts q_book_strokes q_book_lengths q_book_letters c_size c_readSoFar c_book_size a_book_strokeCounts a_book_strokes a_entries a_firsts a_keys) → va_S A s.heap H locs → lv_has ls 8 [(0, .ref q_this), (1, .int x1), (3, .int x3), (4, .int x4)] → W p l e jr_Reading_readStroke s m args below meth c H locs 0 0 Q (F0 m 100 ls []) := by
    intro  x3 x4 a_entries a_firsts H locs ls h hP hD hS hl
    unfold jf_Reading_readStroke_b100 at h
    refine lv_aload_n hx hb dX6_readStroke_100 rfl (lv_at hl 0 rfl) ?_
    refine va_get (D := E.1) (ci := 6) (v := .ref q_entries) (C := RX6) (T := TX6) (N := 6) hx hb hts hin6 hown hK.1 hP 0 rfl rfl 3 (by decide) hk_18 (fun _ h9 => h9) rfl dX6_readStroke_101 ?_
    refine lv_iload_n hx hb dX6_readStroke_104 rfl (lv_at hl 1 rfl) ?_
    refine lv_iload hx hb dX6_readStroke_105 (lv_at hl 3 rfl) ?_
    obtain ⟨g107, h⟩ := jga_e h
    refine va_iast hx hb hK.1 hP hD hS 4 1 rfl rfl g107 dX6_readStroke_107 (fun H locs hP hD hS => ?_)
    replace hP : va_P E.1 vwCl (jw_Reading_readStroke E q_this q_book q_keys q_firsts q_entries q_book_kinds q_book_strokeCounts q_book_strokes q_book_lengths q_book_letters c_size c_readSoFar c_book_size a_book_strokeCounts a_book_strokes (upd a_entries x1.toNatClampNeg x4) a_firsts a_keys) H := hP
    replace hD : va_D A (jw_Reading_readStroke E q_this q_book q_keys q_firsts q_entries q_book_kinds q_book_strokeCounts q_book_strokes q_book_lengths q_book_letters c_size c_readSoFar c_book_size a_book_strokeCounts a_book_strokes (upd a_entries x1.toNatClampNeg x4) a_firsts a_keys) := hD
    refine lv_aload_n hx hb dX6_readStroke_108 rfl (lv_at hl 0 rfl) ?_
    refine va_get (D := E.1) (ci := 6) (v := .ref q_firsts) (C := RX6) (T := TX6) (N := 6) hx hb hts hin6 hown hK.1 hP 0 rfl rfl 2 (by decide) hk_15 (fun _ h9 => h9) rfl dX6_readStroke_109 ?_
    refine lv_iload_n hx hb dX6_readStroke_112 rfl (lv_at hl 1 rfl) ?_
    refine lv_iload hx hb dX6_readStroke_113 (lv_at hl 3 rfl) ?_
    refine lv_iconst (v := (-1)) hx hb dX6_readStroke_115 (by decide) ?_
    refine lv_icmp_ne (tgt := 123) hx hb dX6_readStroke_116 (by decide) (fun hq116 => ?_) (fun hq116 => ?_)
    · replace h := jif_f hq116 h
      refine lv_iload_n hx hb dX6_readStroke_123 rfl (lv_at hl 1 rfl) ?_
      refine lv_iload_n hx hb dX6_readStroke_124 rfl (lv_at hl 2 rfl) ?_
      refine lv_isub hx hb dX6_readStroke_125 ?_
      refine lv_iconst (v := 1) hx hb dX6_readStroke_126 (by decide) ?_
      refine lv_iadd hx hb dX6_readStroke_127 ?_
      exact kb128   x1 ((x1 - x3) + 1) (upd a_entries x1.toNatClampNeg x4) a_firsts _ _ _ h hP hD hS (lv_sub hl [0] rfl)
    · replace h := jif_t hq116 h
      refine lv_iload_n hx hb dX6_readStroke_119 rfl (lv_at hl 1 rfl) ?_
      refine lv_goto (tgt := 128) hx hb dX6_readStroke_120 (by decide) ?_
      exact kb128   x1 x1 (upd a_entries x1.toNatClampNeg x4) a_firsts _ _ _ h hP hD hS (lv_sub hl [0] rfl)
  have kb94 : ∀ (k14 : Int32 → Int32 → Int32 → Int32 → (Nat → Int32) → (Nat → Int32) → Option ((Nat → Int32) × (Nat → Int32))) (hk14 : ∀ (x2 : Int32) (x3 : Int32) (x4 : Int32) (x5 : Int32) (a_entries : (Nat → Int32)) (a_firsts : (Nat → Int32)) (H : Heap) (locs : List Loc) (ls : Array Slot), k14 x2 x3 x4 x5 a_entries a_firsts = some T → va_P E.1 vwCl (jw_Reading_readStroke E q_this q_book q_keys q_firsts q_entries q_book_kinds q_book_strokeCounts q_book_strokes q_book_lengths q_book_letters c_size c_readSoFar c_book_size a_book_strokeCounts a_book_strokes a_entries a_firsts a_keys) H → va_D A (jw_Reading_readStroke E q_this q_book q_keys q_firsts q_entries q_book_kinds q_book_strokeCounts q_book_strokes q_book_lengths q_book_letters c_size c_readSoFar c_book_size a_book_strokeCounts a_book_strokes a_entries a_firsts a_keys) → va_S A s.heap H locs → lv_has ls 8 [(0, .ref q_this), (1, .int x1), (2, .int x2), (3, .int x3), (4, .int x4), (5, .int x5)] → W p l e jr_Reading_readStroke s m args below meth c H locs 0 0 Q (F0 m 14 ls [])) (x2 : Int32) (x3 : Int32) (x4 : Int32) (x5 : Int32) (a_entries : (Nat → Int32)) (a_firsts : (Nat → Int32)) (H : Heap) (locs : List Loc) (ls : Array Slot), jf_Reading_readStroke_b94 k14 x2 x3 x4 x5 a_entries a_firsts = some T → va_P E.1 vwCl (jw_Reading_readStroke E q_this q_book q_keys q_firsts q_entries q_book_kinds q_book_strokeCounts q_book_strokes q_book_lengths q_book_letters c_size c_readSoFar c_book_size a_book_strokeCounts a_book_strokes a_entries a_firsts a_keys) H → va_D A (jw_Reading_readStroke E q_this q_book q_keys q_firsts q_entries q_book_kinds q_book_strokeCounts q_book_strokes q_book_lengths q_book_letters c_size c_readSoFar c_book_size a_book_strokeCounts a_book_strokes a_entries a_firsts a_keys) → va_S A s.heap H locs → lv_has ls 8 [(0, .ref q_this), (1, .int x1), (2, .int x2), (3, .int x3), (4, .int x4), (5, .int x5)] → W p l e jr_Reading_readStroke s m args below meth c H locs 0 0 Q (F0 m 94 ls []) := by
    intro k14 hk14 x2 x3 x4 x5 a_entries a_firsts H locs ls h hP hD hS hl
    unfold jf_Reading_readStroke_b94 at h
    refine lv_iinc (v := (x5 + 1)) (lv' := [(5, .int (x5 + 1)), (0, .ref q_this), (1, .int x1), (2, .int x2), (3, .int x3), (4, .int x4)]) hx hb dX6_readStroke_94 hl (k := 5) rfl rfl (by decide) rfl (fun ls hl => ?_)
    refine lv_goto (tgt := 14) hx hb dX6_readStroke_97 (by decide) ?_
    exact hk14 x2 x3 x4 (x5 + 1) a_entries a_firsts _ _ _ h hP hD hS (lv_sub hl [1, 2, 3, 4, 5, 0] rfl)
  have kb58 : ∀ (k14 : Int32 → Int32 → Int32 → Int32 → (Nat → Int32) → (Nat → Int32) → Option ((Nat → Int32) × (Nat → Int32))) (hk14 : ∀ (x2 : Int32) (x3 : Int32) (x4 : Int32) (x5 : Int32) (a_entries : (Nat → Int32)) (a_firsts : (Nat → Int32)) (H : Heap) (locs : List Loc) (ls : Array Slot), k14 x2 x3 x4 x5 a_entries a_firsts = some T → va_P E.1 vwCl (jw_Reading_readStroke E q_this q_book q_keys q_firsts q_entries q_book_kinds q_book_strokeCounts q_book_strokes q_book_lengths q_book_letters c_size c_readSoFar c_book_size a_book_strokeCounts a_book_strokes a_entries a_firsts a_keys) H → va_D A (jw_Reading_readStroke E q_this q_book q_keys q_firsts q_entries q_book_kinds q_book_strokeCounts q_book_strokes q_book_lengths q_book_letters c_size c_readSoFar c_book_size a_book_strokeCounts a_book_strokes a_entries a_firsts a_keys) → va_S A s.heap H locs → lv_has ls 8 [(0, .ref q_this), (1, .int x1), (2, .int x2), (3, .int x3), (4, .int x4), (5, .int x5)] → W p l e jr_Reading_readStroke s m args below meth c H locs 0 0 Q (F0 m 14 ls [])) (x2 : Int32) (x3 : Int32) (x4 : Int32) (x5 : Int32) (x6 : Int32) (z0 : Int32) (a_entries : (Nat → Int32)) (a_firsts : (Nat → Int32)) (H : Heap) (locs : List Loc) (ls : Array Slot), jf_Reading_readStroke_b58 N x1 c_book_size a_book_strokeCounts a_book_strokes a_keys k14 x2 x3 x4 x5 x6 z0 a_entries a_firsts = some T → va_P E.1 vwCl (jw_Reading_readStroke E q_this q_book q_keys q_firsts q_entries q_book_kinds q_book_strokeCounts q_book_strokes q_book_lengths q_book_letters c_size c_readSoFar c_book_size a_book_strokeCounts a_book_strokes a_entries a_firsts a_keys) H → va_D A (jw_Reading_readStroke E q_this q_book q_keys q_firsts q_entries q_book_kinds q_book_strokeCounts q_book_strokes q_book_lengths q_book_letters c_size c_readSoFar c_book_size a_book_strokeCounts a_book_strokes a_entries a_firsts a_keys) → va_S A s.heap H locs → lv_has ls 8 [(0, .ref q_this), (1, .int x1), (2, .int x2), (3, .int x3), (4, .int x4), (5, .int x5), (6, .int x6)] → W p l e jr_Reading_readStroke s m args below meth c H locs 0 0 Q (F0 m 58 ls [.int z0]) := by
    intro k14 hk14 x2 x3 x4 x5 x6 z0 a_entries a_firsts H locs ls h hP hD hS hl
    unfold jf_Reading_readStroke_b58 at h
    refine lv_istore (lv' := [(7, .int z0), (0, .ref q_this), (1, .int x1), (2, .int x2), (3, .int x3), (4, .int x4), (5, .int x5), (6, .int x6)]) hx hb dX6_readStroke_58 hl (by decide) rfl (fun ls hl => ?_)
    refine lv_iload hx hb dX6_readStroke_60 (lv_at hl 0 rfl) ?_
    refine lv_if_eq (tgt := 94) hx hb dX6_readStroke_62 (by decide) (fun hq62 => ?_) (fun hq62 => ?_)
    · replace h := jif_t hq62 h
      exact kb94 k14 hk14  x2 x3 x4 x5 a_entries a_firsts _ _ _ h hP hD hS (lv_sub hl [1, 2, 3, 4, 5, 6] rfl)
    · replace h := jif_f hq62 h
      refine lv_aload_n hx hb dX6_readStroke_65 rfl (lv_at hl 1 rfl) ?_
      refine va_get (D := E.1) (ci := 6) (v := .ref q_book) (C := RX6) (T := TX6) (N := 6) hx hb hts hin6 hown hK.1 hP 0 rfl rfl 0 (by decide) hk_21 (fun _ h9 => h9) rfl dX6_readStroke_66 ?_
      refine lv_iload hx hb dX6_readStroke_69 (lv_at hl 6 rfl) ?_
      refine lv_aload_n hx hb dX6_readStroke_71 rfl (lv_at hl 1 rfl) ?_
      refine va_get (D := E.1) (ci := 6) (v := .ref q_keys) (C := RX6) (T := TX6) (N := 6) hx hb hts hin6 hown hK.1 hP 0 rfl rfl 1 (by decide) hk_9 (fun _ h9 => h9) rfl dX6_readStroke_72 ?_
      refine lv_iload_n hx hb dX6_readStroke_75 rfl (lv_at hl 2 rfl) ?_
      refine lv_iload hx hb dX6_readStroke_76 (lv_at hl 7 rfl) ?_
      refine lv_isub hx hb dX6_readStroke_78 ?_
      refine lv_iconst (v := 1) hx hb dX6_readStroke_79 (by decide) ?_
      refine lv_iadd hx hb dX6_readStroke_80 ?_
      obtain ⟨r81, hf81, h⟩ := jbd h
      refine j_callVi (own := RX6) (As := [.int x5, .ref q_keys, .int ((x1 - x6) + 1)]) (rest := []) hx hb hml hown hts hK hA hP hD hS (jc_Book_isOutlineAt l E q_book q_book_kinds q_book_strokeCounts q_book_strokes q_book_lengths q_book_letters q_keys 300 c_book_size a_keys a_book_strokeCounts a_book_strokes x5 ((x1 - x6) + 1) N hf81) gX6_readStroke_X0_isOutlineAt rfl ⟨rfl, rfl⟩ 3 (by decide +kernel) rfl rfl 1 0 rfl rfl [1, 6, 2, 3] [0, 4, 5] [0, 3, 5, 6, 1, 2, 4] rfl rfl rfl rfl rfl rfl rfl hl.1 rfl rfl dX6_readStroke_81 (fun H locs hP hD hS => ?_)
      replace hP : va_P E.1 vwCl (jw_Reading_readStroke E q_this q_book q_keys q_firsts q_entries q_book_kinds q_book_strokeCounts q_book_strokes q_book_lengths q_book_letters c_size c_readSoFar c_book_size a_book_strokeCounts a_book_strokes a_entries a_firsts a_keys) H := hP
      replace hD : va_D A (jw_Reading_readStroke E q_this q_book q_keys q_firsts q_entries q_book_kinds q_book_strokeCounts q_book_strokes q_book_lengths q_book_letters c_size c_readSoFar c_book_size a_book_strokeCounts a_book_strokes a_entries a_firsts a_keys) := hD
      refine lv_if_eq (tgt := 94) hx hb dX6_readStroke_84 (by decide) (fun hq84 => ?_) (fun hq84 => ?_)
      · replace h := jif_t hq84 h
        exact kb94 k14 hk14  x2 x3 x4 x5 a_entries a_firsts _ _ _ h hP hD hS (lv_sub hl [1, 2, 3, 4, 5, 6] rfl)
      · replace h := jif_f hq84 h
        refine lv_iload hx hb dX6_readStroke_87 (lv_at hl 7 rfl) ?_
        refine lv_istore_n (lv' := [(3, .int x6), (7, .int z0), (0, .ref q_this), (1, .int x1), (2, .int x2), (4, .int x4), (5, .int x5), (6, .int x6)]) hx hb dX6_readStroke_89 rfl hl (by decide) rfl (fun ls hl => ?_)
        refine lv_iload hx hb dX6_readStroke_90 (lv_at hl 6 rfl) ?_
        refine lv_istore (lv' := [(4, .int x5), (3, .int x6), (7, .int z0), (0, .ref q_this), (1, .int x1), (2, .int x2), (5, .int x5), (6, .int x6)]) hx hb dX6_readStroke_92 hl (by decide) rfl (fun ls hl => ?_)
        exact kb94 k14 hk14  x2 x6 x5 x5 a_entries a_firsts _ _ _ h hP hD hS (lv_sub hl [3, 4, 5, 1, 0, 6] rfl)
  have kb57 : ∀ (k14 : Int32 → Int32 → Int32 → Int32 → (Nat → Int32) → (Nat → Int32) → Option ((Nat → Int32) × (Nat → Int32))) (hk14 : ∀ (x2 : Int32) (x3 : Int32) (x4 : Int32) (x5 : Int32) (a_entries : (Nat → Int32)) (a_firsts : (Nat → Int32)) (H : Heap) (locs : List Loc) (ls : Array Slot), k14 x2 x3 x4 x5 a_entries a_firsts = some T → va_P E.1 vwCl (jw_Reading_readStroke E q_this q_book q_keys q_firsts q_entries q_book_kinds q_book_strokeCounts q_book_strokes q_book_lengths q_book_letters c_size c_readSoFar c_book_size a_book_strokeCounts a_book_strokes a_entries a_firsts a_keys) H → va_D A (jw_Reading_readStroke E q_this q_book q_keys q_firsts q_entries q_book_kinds q_book_strokeCounts q_book_strokes q_book_lengths q_book_letters c_size c_readSoFar c_book_size a_book_strokeCounts a_book_strokes a_entries a_firsts a_keys) → va_S A s.heap H locs → lv_has ls 8 [(0, .ref q_this), (1, .int x1), (2, .int x2), (3, .int x3), (4, .int x4), (5, .int x5)] → W p l e jr_Reading_readStroke s m args below meth c H locs 0 0 Q (F0 m 14 ls [])) (x2 : Int32) (x3 : Int32) (x4 : Int32) (x5 : Int32) (x6 : Int32) (a_entries : (Nat → Int32)) (a_firsts : (Nat → Int32)) (H : Heap) (locs : List Loc) (ls : Array Slot), jf_Reading_readStroke_b57 N x1 c_book_size a_book_strokeCounts a_book_strokes a_keys k14 x2 x3 x4 x5 x6 a_entries a_firsts = some T → va_P E.1 vwCl (jw_Reading_readStroke E q_this q_book q_keys q_firsts q_entries q_book_kinds q_book_strokeCounts q_book_strokes q_book_lengths q_book_letters c_size c_readSoFar c_book_size a_book_strokeCounts a_book_strokes a_entries a_firsts a_keys) H → va_D A (jw_Reading_readStroke E q_this q_book q_keys q_firsts q_entries q_book_kinds q_book_strokeCounts q_book_strokes q_book_lengths q_book_letters c_size c_readSoFar c_book_size a_book_strokeCounts a_book_strokes a_entries a_firsts a_keys) → va_S A s.heap H locs → lv_has ls 8 [(0, .ref q_this), (1, .int x1), (2, .int x2), (3, .int x3), (4, .int x4), (5, .int x5), (6, .int x6)] → W p l e jr_Reading_readStroke s m args below meth c H locs 0 0 Q (F0 m 57 ls []) := by
    intro k14 hk14 x2 x3 x4 x5 x6 a_entries a_firsts H locs ls h hP hD hS hl
    unfold jf_Reading_readStroke_b57 at h
    refine lv_iconst (v := 0) hx hb dX6_readStroke_57 (by decide) ?_
    exact kb58 k14 hk14  x2 x3 x4 x5 x6 0 a_entries a_firsts _ _ _ h hP hD hS (lv_sub hl [0, 1, 2, 3, 4, 5, 6] rfl)
  have kb14 : ∀ (n : Nat) (x2 : Int32) (x3 : Int32) (x4 : Int32) (x5 : Int32) (a_entries : (Nat → Int32)) (a_firsts : (Nat → Int32)) (H : Heap) (locs : List Loc) (ls : Array Slot), jf_Reading_readStroke_b14 N x1 c_book_size a_book_strokeCounts a_book_strokes a_keys n x2 x3 x4 x5 a_entries a_firsts = some T → va_P E.1 vwCl (jw_Reading_readStroke E q_this q_book q_keys q_firsts q_entries q_book_kinds q_book_strokeCounts q_book_strokes q_book_lengths q_book_letters c_size c_readSoFar c_book_size a_book_strokeCounts a_book_strokes a_entries a_firsts a_keys) H → va_D A (jw_Reading_readStroke E q_this q_book q_keys q_firsts q_entries q_book_kinds q_book_strokeCounts q_book_strokes q_book_lengths q_book_letters c_size c_readSoFar c_book_size a_book_strokeCounts a_book_strokes a_entries a_firsts a_keys) → va_S A s.heap H locs → lv_has ls 8 [(0, .ref q_this), (1, .int x1), (2, .int x2), (3, .int x3), (4, .int x4), (5, .int x5)] → W p l e jr_Reading_readStroke s m args below meth c H locs 0 0 Q (F0 m 14 ls []) := by
    intro n
    induction n with
    | zero => intro x2 x3 x4 x5 a_entries a_firsts H locs ls h; exact j_none (α := (Nat → Int32) × (Nat → Int32)) h
    | succ n ih =>
      intro x2 x3 x4 x5 a_entries a_firsts H locs ls h hP hD hS hl
      rw [jf_Reading_readStroke_b14] at h
      refine lv_iload hx hb dX6_readStroke_14 (lv_at hl 5 rfl) ?_
      refine lv_aload_n hx hb dX6_readStroke_16 rfl (lv_at hl 0 rfl) ?_
      refine va_get (D := E.1) (ci := 6) (v := .ref q_book) (C := RX6) (T := TX6) (N := 6) hx hb hts hin6 hown hK.1 hP 0 rfl rfl 0 (by decide) hk_21 (fun _ h9 => h9) rfl dX6_readStroke_17 ?_
      obtain ⟨r20, hf20, h⟩ := jbd h
      refine j_callVi (own := RX6) (As := []) (rest := [.int x5]) hx hb hml hown hts hK hA hP hD hS (jc_Book_size l E q_book q_book_kinds q_book_strokeCounts q_book_strokes q_book_lengths q_book_letters c_book_size N hf20) gX6_readStroke_X0_size rfl ⟨rfl, rfl⟩ 0 (by decide +kernel) rfl rfl 1 0 rfl rfl [1] [0, 2, 3, 4, 5, 6] [0, 6, 1, 2, 3, 4, 5] rfl rfl rfl rfl rfl rfl rfl hl.1 rfl rfl dX6_readStroke_20 (fun H locs hP hD hS => ?_)
      replace hP : va_P E.1 vwCl (jw_Reading_readStroke E q_this q_book q_keys q_firsts q_entries q_book_kinds q_book_strokeCounts q_book_strokes q_book_lengths q_book_letters c_size c_readSoFar c_book_size a_book_strokeCounts a_book_strokes a_entries a_firsts a_keys) H := hP
      replace hD : va_D A (jw_Reading_readStroke E q_this q_book q_keys q_firsts q_entries q_book_kinds q_book_strokeCounts q_book_strokes q_book_lengths q_book_letters c_size c_readSoFar c_book_size a_book_strokeCounts a_book_strokes a_entries a_firsts a_keys) := hD
      refine lv_icmp_ge (tgt := 100) hx hb dX6_readStroke_23 (by decide) (fun hq23 => ?_) (fun hq23 => ?_)
      · replace h := jif_t hq23 h
        exact kb100   x3 x4 a_entries a_firsts _ _ _ h hP hD hS (lv_sub hl [0, 1, 3, 4] rfl)
      · replace h := jif_f hq23 h
        refine lv_aload_n hx hb dX6_readStroke_26 rfl (lv_at hl 0 rfl) ?_
        refine va_get (D := E.1) (ci := 6) (v := .ref q_book) (C := RX6) (T := TX6) (N := 6) hx hb hts hin6 hown hK.1 hP 0 rfl rfl 0 (by decide) hk_21 (fun _ h9 => h9) rfl dX6_readStroke_27 ?_
        refine lv_iload hx hb dX6_readStroke_30 (lv_at hl 5 rfl) ?_
        obtain ⟨r32, hf32, h⟩ := jbd h
        refine j_callVi (own := RX6) (As := [.int x5]) (rest := []) hx hb hml hown hts hK hA hP hD hS (jc_Book_strokesOf l E q_book q_book_kinds q_book_strokeCounts q_book_strokes q_book_lengths q_book_letters c_book_size a_book_strokeCounts x5 N hf32) gX6_readStroke_X0_strokesOf rfl ⟨rfl, rfl⟩ 1 (by decide +kernel) rfl rfl 1 0 rfl rfl [1, 2] [0, 3, 4, 5, 6] [0, 5, 6, 1, 2, 3, 4] rfl rfl rfl rfl rfl rfl rfl hl.1 rfl rfl dX6_readStroke_32 (fun H locs hP hD hS => ?_)
        replace hP : va_P E.1 vwCl (jw_Reading_readStroke E q_this q_book q_keys q_firsts q_entries q_book_kinds q_book_strokeCounts q_book_strokes q_book_lengths q_book_letters c_size c_readSoFar c_book_size a_book_strokeCounts a_book_strokes a_entries a_firsts a_keys) H := hP
        replace hD : va_D A (jw_Reading_readStroke E q_this q_book q_keys q_firsts q_entries q_book_kinds q_book_strokeCounts q_book_strokes q_book_lengths q_book_letters c_size c_readSoFar c_book_size a_book_strokeCounts a_book_strokes a_entries a_firsts a_keys) := hD
        refine lv_istore (lv' := [(6, .int r32), (0, .ref q_this), (1, .int x1), (2, .int x2), (3, .int x3), (4, .int x4), (5, .int x5)]) hx hb dX6_readStroke_35 hl (by decide) rfl (fun ls hl => ?_)
        refine lv_iload hx hb dX6_readStroke_37 (lv_at hl 0 rfl) ?_
        refine lv_iload_n hx hb dX6_readStroke_39 rfl (lv_at hl 4 rfl) ?_
        refine lv_icmp_le (tgt := 57) hx hb dX6_readStroke_40 (by decide) (fun hq40 => ?_) (fun hq40 => ?_)
        · replace h := jif_t hq40 h
          exact kb57 (jf_Reading_readStroke_b14 N x1 c_book_size a_book_strokeCounts a_book_strokes a_keys n) ih  x2 x3 x4 x5 r32 a_entries a_firsts _ _ _ h hP hD hS (lv_sub hl [1, 2, 3, 4, 5, 6, 0] rfl)
        · replace h := jif_f hq40 h
          refine lv_iload_n hx hb dX6_readStroke_43 rfl (lv_at hl 3 rfl) ?_
          refine lv_iload hx hb dX6_readStroke_44 (lv_at hl 0 rfl) ?_
          refine lv_ishr hx hb dX6_readStroke_46 ?_
          refine lv_iconst (v := 1) hx hb dX6_readStroke_47 (by decide) ?_
          refine lv_iand hx hb dX6_readStroke_48 ?_
          refine lv_iconst (v := 1) hx hb dX6_readStroke_49 (by decide) ?_
          refine lv_icmp_ne (tgt := 57) hx hb dX6_readStroke_50 (by decide) (fun hq50 => ?_) (fun hq50 => ?_)
          · replace h := jif_f hq50 h
            exact kb57 (jf_Reading_readStroke_b14 N x1 c_book_size a_book_strokeCounts a_book_strokes a_keys n) ih  x2 x3 x4 x5 r32 a_entries a_firsts _ _ _ h hP hD hS (lv_sub hl [1, 2, 3, 4, 5, 6, 0] rfl)
          · replace h := jif_t hq50 h
            refine lv_iconst (v := 1) hx hb dX6_readStroke_53 (by decide) ?_
            refine lv_goto (tgt := 58) hx hb dX6_readStroke_54 (by decide) ?_
            exact kb58 (jf_Reading_readStroke_b14 N x1 c_book_size a_book_strokeCounts a_book_strokes a_keys n) ih  x2 x3 x4 x5 r32 1 a_entries a_firsts _ _ _ h hP hD hS (lv_sub hl [1, 2, 3, 4, 5, 6, 0] rfl)
  unfold jf_Reading_readStroke at h
  refine lv_aload_n hx hb dX6_readStroke_0 rfl (lv_at hl 0 rfl) ?_
  refine lv_iload_n hx hb dX6_readStroke_1 rfl (lv_at hl 1 rfl) ?_
  obtain ⟨r2, hf2, h⟩ := jbd h
  refine j_callVi (own := RX6) (As := [.int x1]) (rest := []) hx hb hml hown hts hK hA hP hD hS (jc_Reading_lengthsAt l E q_this q_book q_keys q_firsts q_entries c_size c_readSoFar a_firsts x1 N hf2) gX6_readStroke_X6_lengthsAt rfl ⟨rfl, rfl⟩ 1 (by decide +kernel) rfl rfl 0 6 rfl rfl [0, 5] [1, 2, 3, 4, 6] [5, 0, 1, 2, 3, 6, 4] rfl rfl rfl rfl rfl rfl rfl hl.1 rfl rfl dX6_readStroke_2 (fun H locs hP hD hS => ?_)
  replace hP : va_P E.1 vwCl (jw_Reading_readStroke E q_this q_book q_keys q_firsts q_entries q_book_kinds q_book_strokeCounts q_book_strokes q_book_lengths q_book_letters c_size c_readSoFar c_book_size a_book_strokeCounts a_book_strokes a_entries a_firsts a_keys) H := hP
  replace hD : va_D A (jw_Reading_readStroke E q_this q_book q_keys q_firsts q_entries q_book_kinds q_book_strokeCounts q_book_strokes q_book_lengths q_book_letters c_size c_readSoFar c_book_size a_book_strokeCounts a_book_strokes a_entries a_firsts a_keys) := hD
  refine lv_istore_n (lv' := [(2, .int r2), (0, .ref q_this), (1, .int x1)]) hx hb dX6_readStroke_5 rfl hl (by decide) rfl (fun ls hl => ?_)
  refine lv_iconst (v := 0) hx hb dX6_readStroke_6 (by decide) ?_
  refine lv_istore_n (lv' := [(3, .int 0), (2, .int r2), (0, .ref q_this), (1, .int x1)]) hx hb dX6_readStroke_7 rfl hl (by decide) rfl (fun ls hl => ?_)
  refine lv_iconst (v := (-1)) hx hb dX6_readStroke_8 (by decide) ?_
  refine lv_istore (lv' := [(4, .int (-1)), (3, .int 0), (2, .int r2), (0, .ref q_this), (1, .int x1)]) hx hb dX6_readStroke_9 hl (by decide) rfl (fun ls hl => ?_)
  refine lv_iconst (v := 0) hx hb dX6_readStroke_11 (by decide) ?_
  refine lv_istore (lv' := [(5, .int 0), (4, .int (-1)), (3, .int 0), (2, .int r2), (0, .ref q_this), (1, .int x1)]) hx hb dX6_readStroke_12 hl (by decide) rfl (fun ls hl => ?_)
  exact kb14  N r2 0 (-1) 0 a_entries a_firsts _ _ _ h hP hD hS (lv_sub hl [4, 5, 3, 2, 1, 0] rfl)
abbrev jw_Reading_read (E : jE) (q_this q_book q_keys q_firsts q_entries q_book_kinds q_book_strokeCounts q_book_strokes q_book_lengths q_book_letters : Nat) (c_size : Int32) (c_readSoFar : Int32) (c_book_size : Int32) (a_book_strokeCounts : (Nat → Int32)) (a_book_strokes : (Nat → Int32)) (a_entries : (Nat → Int32)) (a_firsts : (Nat → Int32)) (a_keys : (Nat → Int32)) : va_W := [(q_this, .inr (6, [.ref q_book, .ref q_keys, .ref q_firsts, .ref q_entries, .int c_size, .int c_readSoFar])), (q_book, .inr (0, [.ref q_book_kinds, .ref q_book_strokeCounts, .ref q_book_strokes, .ref q_book_lengths, .ref q_book_letters, .int c_book_size])), (q_book_strokeCounts, .inl (E.2.2.1, 60, .inl a_book_strokeCounts)), (q_book_strokes, .inl (E.2.2.1, 300, .inl a_book_strokes)), (q_entries, .inl (E.2.2.1, 300, .inl a_entries)), (q_firsts, .inl (E.2.2.1, 300, .inl a_firsts)), (q_keys, .inl (E.2.2.1, 300, .inl a_keys))]
def jr_Reading_read : Room := { frames := 3, cells := 0, slots := 0, locals := 73 }
set_option maxHeartbeats 4000000 in
set_option maxRecDepth 100000 in
theorem jc_Reading_read (l : Launch) (E : jE) (q_this q_book q_keys q_firsts q_entries q_book_kinds q_book_strokeCounts q_book_strokes q_book_lengths q_book_letters : Nat) (c_size : Int32) (c_readSoFar : Int32) (c_book_size : Int32) (a_book_strokeCounts : (Nat → Int32)) (a_book_strokes : (Nat → Int32)) (a_entries : (Nat → Int32)) (a_firsts : (Nat → Int32)) (a_keys : (Nat → Int32)) (N : Nat) {T : Int32 × (Nat → Int32) × (Nat → Int32)} (h : jf_Reading_read N c_size c_book_size a_book_strokeCounts a_book_strokes a_keys c_readSoFar a_entries a_firsts = some T) : jMv l yX6_read wsX6_read jr_Reading_read E [.ref q_this] (jw_Reading_read E q_this q_book q_keys q_firsts q_entries q_book_kinds q_book_strokeCounts q_book_strokes q_book_lengths q_book_letters c_size c_readSoFar c_book_size a_book_strokeCounts a_book_strokes a_entries a_firsts a_keys) (jw_Reading_read E q_this q_book q_keys q_firsts q_entries q_book_kinds q_book_strokeCounts q_book_strokes q_book_lengths q_book_letters c_size T.1 c_book_size a_book_strokeCounts a_book_strokes T.2.1 T.2.2 a_keys) := by
  refine jMv.begin (cc := cX6_read) (maxL := 2) (ret := none) (by decide) rfl (Nat.le_of_ble_eq_true rfl) ?_
  intro p e s m args below meth c A ls Q hQ hx hb hr hml hown hlocks hts hK hA hP hD hS hl
  replace hown : s.vm.findClass RX6 = some m.cls := hown
  replace hl : lv_has ls 2 [(0, .ref q_this)] := hl
  have hin6 : ∀ w ∈ u_ws RX6 TX6 6, w ∈ wsX6_read := by decide +kernel
  have hk_25 := hts (.fieldLink RX6 25 "StenoRoom$Reading" "size" "I") (by decide +kernel)
  have hk_29 := hts (.fieldLink RX6 29 "StenoRoom$Reading" "readSoFar" "I") (by decide +kernel)
  have kb28 : ∀ (c_readSoFar : Int32) (a_entries : (Nat → Int32)) (a_firsts : (Nat → Int32)) (H : Heap) (locs : List Loc) (ls : Array Slot), jf_Reading_read_b28 c_size c_readSoFar a_entries a_firsts = some T → va_P E.1 vwCl (jw_Reading_read E q_this q_book q_keys q_firsts q_entries q_book_kinds q_book_strokeCounts q_book_strokes q_book_lengths q_book_letters c_size c_readSoFar c_book_size a_book_strokeCounts a_book_strokes a_entries a_firsts a_keys) H → va_D A (jw_Reading_read E q_this q_book q_keys q_firsts q_entries q_book_kinds q_book_strokeCounts q_book_strokes q_book_lengths q_book_letters c_size c_readSoFar c_book_size a_book_strokeCounts a_book_strokes a_entries a_firsts a_keys) → va_S A s.heap H locs → lv_has ls 2 [(0, .ref q_this)] → W p l e jr_Reading_read s m args below meth c H locs 0 0 Q (F0 m 28 ls []) := by
    intro  c_readSoFar a_entries a_firsts H locs ls h hP hD hS hl
    unfold jf_Reading_read_b28 at h
    refine lv_aload_n hx hb dX6_read_28 rfl (lv_at hl 0 rfl) ?_
    refine lv_aload_n hx hb dX6_read_29 rfl (lv_at hl 0 rfl) ?_
    refine va_get (D := E.1) (ci := 6) (v := .int c_size) (C := RX6) (T := TX6) (N := 6) hx hb hts hin6 hown hK.1 hP 0 rfl rfl 4 (by decide) hk_25 (fun _ h9 => h9) rfl dX6_read_30 ?_
    refine va_put (D := E.1) (ci := 6) (v := .int c_size) (ty := .int) (C := RX6) (T := TX6) (N := 6) hx hb hts hin6 tyX6 tyX6_ok nmX6 hown hK.1 hP hD hS 0 rfl rfl 5 (by decide) hk_29 (fun _ h9 => h9) rfl (by decide +kernel) rfl rfl (Nat.le_of_ble_eq_true rfl) dX6_read_33 (fun H locs hP hD hS => ?_)
    replace hP : va_P E.1 vwCl (jw_Reading_read E q_this q_book q_keys q_firsts q_entries q_book_kinds q_book_strokeCounts q_book_strokes q_book_lengths q_book_letters c_size c_size c_book_size a_book_strokeCounts a_book_strokes a_entries a_firsts a_keys) H := hP
    replace hD : va_D A (jw_Reading_read E q_this q_book q_keys q_firsts q_entries q_book_kinds q_book_strokeCounts q_book_strokes q_book_lengths q_book_letters c_size c_size c_book_size a_book_strokeCounts a_book_strokes a_entries a_firsts a_keys) := hD
    exact j_vret (u := (c_size, a_entries, a_firsts)) (wv := (fun T => (jw_Reading_read E q_this q_book q_keys q_firsts q_entries q_book_kinds q_book_strokeCounts q_book_strokes q_book_lengths q_book_letters c_size T.1 c_book_size a_book_strokeCounts a_book_strokes T.2.1 T.2.2 a_keys))) h hQ hx hb hr hlocks hS hP hD dX6_read_36
  have kb9 : ∀ (n : Nat) (x1 : Int32) (c_readSoFar : Int32) (a_entries : (Nat → Int32)) (a_firsts : (Nat → Int32)) (H : Heap) (locs : List Loc) (ls : Array Slot), jf_Reading_read_b9 N c_size c_book_size a_book_strokeCounts a_book_strokes a_keys n x1 c_readSoFar a_entries a_firsts = some T → va_P E.1 vwCl (jw_Reading_read E q_this q_book q_keys q_firsts q_entries q_book_kinds q_book_strokeCounts q_book_strokes q_book_lengths q_book_letters c_size c_readSoFar c_book_size a_book_strokeCounts a_book_strokes a_entries a_firsts a_keys) H → va_D A (jw_Reading_read E q_this q_book q_keys q_firsts q_entries q_book_kinds q_book_strokeCounts q_book_strokes q_book_lengths q_book_letters c_size c_readSoFar c_book_size a_book_strokeCounts a_book_strokes a_entries a_firsts a_keys) → va_S A s.heap H locs → lv_has ls 2 [(0, .ref q_this), (1, .int x1)] → W p l e jr_Reading_read s m args below meth c H locs 0 0 Q (F0 m 9 ls []) := by
    intro n
    induction n with
    | zero => intro x1 c_readSoFar a_entries a_firsts H locs ls h; exact j_none (α := Int32 × (Nat → Int32) × (Nat → Int32)) h
    | succ n ih =>
      intro x1 c_readSoFar a_entries a_firsts H locs ls h hP hD hS hl
      rw [jf_Reading_read_b9] at h
      refine lv_iload_n hx hb dX6_read_9 rfl (lv_at hl 1 rfl) ?_
      refine lv_aload_n hx hb dX6_read_10 rfl (lv_at hl 0 rfl) ?_
      refine va_get (D := E.1) (ci := 6) (v := .int c_size) (C := RX6) (T := TX6) (N := 6) hx hb hts hin6 hown hK.1 hP 0 rfl rfl 4 (by decide) hk_25 (fun _ h9 => h9) rfl dX6_read_11 ?_
      refine lv_icmp_ge (tgt := 28) hx hb dX6_read_14 (by decide) (fun hq14 => ?_) (fun hq14 => ?_)
      · replace h := jif_t hq14 h
        exact kb28   c_readSoFar a_entries a_firsts _ _ _ h hP hD hS (lv_sub hl [0] rfl)
      · replace h := jif_f hq14 h
        refine lv_aload_n hx hb dX6_read_17 rfl (lv_at hl 0 rfl) ?_
        refine lv_iload_n hx hb dX6_read_18 rfl (lv_at hl 1 rfl) ?_
        obtain ⟨⟨a_entries_19, a_firsts_19⟩, hf19, h⟩ := jbd h
        refine j_callVv (own := RX6) (As := [.int x1]) (rest := []) hx hb hml hown hts hK hA hP hD hS (jc_Reading_readStroke l E q_this q_book q_keys q_firsts q_entries q_book_kinds q_book_strokeCounts q_book_strokes q_book_lengths q_book_letters c_size c_readSoFar c_book_size a_book_strokeCounts a_book_strokes a_entries a_firsts a_keys x1 N hf19) gX6_read_X6_readStroke rfl ⟨rfl, rfl⟩ 1 (by decide +kernel) rfl rfl 0 6 rfl rfl [0, 1, 2, 3, 4, 5, 6] [] [0, 1, 2, 3, 4, 5, 6] rfl rfl rfl rfl rfl rfl rfl hl.1 rfl rfl dX6_read_19 (fun H locs hP hD hS => ?_)
        replace hP : va_P E.1 vwCl (jw_Reading_read E q_this q_book q_keys q_firsts q_entries q_book_kinds q_book_strokeCounts q_book_strokes q_book_lengths q_book_letters c_size c_readSoFar c_book_size a_book_strokeCounts a_book_strokes a_entries_19 a_firsts_19 a_keys) H := hP
        replace hD : va_D A (jw_Reading_read E q_this q_book q_keys q_firsts q_entries q_book_kinds q_book_strokeCounts q_book_strokes q_book_lengths q_book_letters c_size c_readSoFar c_book_size a_book_strokeCounts a_book_strokes a_entries_19 a_firsts_19 a_keys) := hD
        refine lv_iinc (v := (x1 + 1)) (lv' := [(1, .int (x1 + 1)), (0, .ref q_this)]) hx hb dX6_read_22 hl (k := 1) rfl rfl (by decide) rfl (fun ls hl => ?_)
        refine lv_goto (tgt := 9) hx hb dX6_read_25 (by decide) ?_
        exact ih (x1 + 1) c_readSoFar a_entries_19 a_firsts_19 _ _ _ h hP hD hS (lv_sub hl [1, 0] rfl)
  unfold jf_Reading_read at h
  refine lv_aload_n hx hb dX6_read_0 rfl (lv_at hl 0 rfl) ?_
  refine va_get (D := E.1) (ci := 6) (v := .int c_readSoFar) (C := RX6) (T := TX6) (N := 6) hx hb hts hin6 hown hK.1 hP 0 rfl rfl 5 (by decide) hk_29 (fun _ h9 => h9) rfl dX6_read_1 ?_
  refine lv_iconst (v := 0) hx hb dX6_read_4 (by decide) ?_
  refine va_mmax hx hb (hml.trans hl.1.symm) hown (hts (.methodLink RX6 44 Lib.Math.max.name) (by decide +kernel)) (hts (.static Lib.Math.max.name) (by decide +kernel)) (hts (.initialized "java/lang/Math") (by decide +kernel)) (hts (.code Lib.Math.max.name Lib.Math.max.code 2 (some .int)) (by decide +kernel)) (Nat.le_of_ble_eq_true rfl) (Nat.le_of_ble_eq_true rfl) (Nat.zero_le _) (Nat.zero_le _) dX6_read_5 ?_
  refine lv_istore_n (lv' := [(1, .int (if c_readSoFar < 0 then 0 else c_readSoFar)), (0, .ref q_this)]) hx hb dX6_read_8 rfl hl (by decide) rfl (fun ls hl => ?_)
  exact kb9  N (if c_readSoFar < 0 then 0 else c_readSoFar) c_readSoFar a_entries a_firsts _ _ _ h hP hD hS (lv_sub hl [1, 0] rfl)
abbrev jw_Reading_firstAt (E : jE) (q_this q_book q_keys q_firsts q_entries : Nat) (c_size : Int32) (c_readSoFar : Int32) (a_firsts : (Nat → Int32)) : va_W := [(q_this, .inr (6, [.ref q_book, .ref q_keys, .ref q_firsts, .ref q_entries, .int c_size, .int c_readSoFar])), (q_firsts, .inl (E.2.2.1, 300, .inl a_firsts))]
def jr_Reading_firstAt : Room := { frames := 0, cells := 0, slots := 0, locals := 0 }
set_option maxHeartbeats 4000000 in
set_option maxRecDepth 100000 in
theorem jc_Reading_firstAt (l : Launch) (E : jE) (q_this q_book q_keys q_firsts q_entries : Nat) (c_size : Int32) (c_readSoFar : Int32) (a_firsts : (Nat → Int32)) (x1 : Int32) (N : Nat) {T : Int32} (h : jf_Reading_firstAt x1 c_size a_firsts = some T) : jMi l yX6_firstAt wsX6_firstAt jr_Reading_firstAt E [.ref q_this, .int x1] (jw_Reading_firstAt E q_this q_book q_keys q_firsts q_entries c_size c_readSoFar a_firsts) (T) (jw_Reading_firstAt E q_this q_book q_keys q_firsts q_entries c_size c_readSoFar a_firsts) := by
  refine jMi.begin (cc := cX6_firstAt) (maxL := 2) (ret := (some .int)) (by decide) rfl (Nat.le_of_ble_eq_true rfl) ?_
  intro p e s m args below meth c A ls Q hQ hx hb hr hml hown hlocks hts hK hA hP hD hS hl
  replace hown : s.vm.findClass RX6 = some m.cls := hown
  replace hl : lv_has ls 2 [(0, .ref q_this), (1, .int x1)] := hl
  have hin6 : ∀ w ∈ u_ws RX6 TX6 6, w ∈ wsX6_firstAt := by decide +kernel
  have hk_15 := hts (.fieldLink RX6 15 "StenoRoom$Reading" "firsts" "[I") (by decide +kernel)
  have hk_25 := hts (.fieldLink RX6 25 "StenoRoom$Reading" "size" "I") (by decide +kernel)
  unfold jf_Reading_firstAt at h
  refine lv_iload_n hx hb dX6_firstAt_0 rfl (lv_at hl 1 rfl) ?_
  refine lv_if_lt (tgt := 21) hx hb dX6_firstAt_1 (by decide) (fun hq1 => ?_) (fun hq1 => ?_)
  · replace h := jif_t hq1 h
    refine lv_iconst (v := (-1)) hx hb dX6_firstAt_21 (by decide) ?_
    exact j_iret (u := (-1)) (rv := (fun T => T)) (wv := (fun _ => (jw_Reading_firstAt E q_this q_book q_keys q_firsts q_entries c_size c_readSoFar a_firsts))) h hQ hx hb hr rfl hlocks hS hP hD dX6_firstAt_22
  · replace h := jif_f hq1 h
    refine lv_iload_n hx hb dX6_firstAt_4 rfl (lv_at hl 1 rfl) ?_
    refine lv_aload_n hx hb dX6_firstAt_5 rfl (lv_at hl 0 rfl) ?_
    refine va_get (D := E.1) (ci := 6) (v := .int c_size) (C := RX6) (T := TX6) (N := 6) hx hb hts hin6 hown hK.1 hP 0 rfl rfl 4 (by decide) hk_25 (fun _ h9 => h9) rfl dX6_firstAt_6 ?_
    refine lv_icmp_ge (tgt := 21) hx hb dX6_firstAt_9 (by decide) (fun hq9 => ?_) (fun hq9 => ?_)
    · replace h := jif_t hq9 h
      refine lv_iconst (v := (-1)) hx hb dX6_firstAt_21 (by decide) ?_
      exact j_iret (u := (-1)) (rv := (fun T => T)) (wv := (fun _ => (jw_Reading_firstAt E q_this q_book q_keys q_firsts q_entries c_size c_readSoFar a_firsts))) h hQ hx hb hr rfl hlocks hS hP hD dX6_firstAt_22
    · replace h := jif_f hq9 h
      refine lv_aload_n hx hb dX6_firstAt_12 rfl (lv_at hl 0 rfl) ?_
      refine va_get (D := E.1) (ci := 6) (v := .ref q_firsts) (C := RX6) (T := TX6) (N := 6) hx hb hts hin6 hown hK.1 hP 0 rfl rfl 2 (by decide) hk_15 (fun _ h9 => h9) rfl dX6_firstAt_13 ?_
      refine lv_iload_n hx hb dX6_firstAt_16 rfl (lv_at hl 1 rfl) ?_
      obtain ⟨g17, h⟩ := jga_e h
      refine va_iald hx hb hK.1 hP 1 1 rfl rfl g17 dX6_firstAt_17 ?_
      refine lv_goto (tgt := 22) hx hb dX6_firstAt_18 (by decide) ?_
      exact j_iret (u := (a_firsts x1.toNatClampNeg)) (rv := (fun T => T)) (wv := (fun _ => (jw_Reading_firstAt E q_this q_book q_keys q_firsts q_entries c_size c_readSoFar a_firsts))) h hQ hx hb hr rfl hlocks hS hP hD dX6_firstAt_22
abbrev jw_Transcript_findLasts (E : jE) (q_this q_book q_record q_page q_chord q_lasts q_behinds q_owners q_record_keys q_record_firsts q_record_entries : Nat) (c_size : Int32) (c_raws : Int32) (c_settled : Int32) (c_record_size : Int32) (c_record_readSoFar : Int32) (a_lasts : (Nat → Int32)) (a_owners : (Nat → Int32)) (a_record_firsts : (Nat → Int32)) : va_W := [(q_this, .inr (9, [.ref q_book, .ref q_record, .ref q_page, .ref q_chord, .ref q_lasts, .ref q_behinds, .ref q_owners, .int c_size, .int c_raws, .int c_settled])), (q_record, .inr (6, [.ref q_book, .ref q_record_keys, .ref q_record_firsts, .ref q_record_entries, .int c_record_size, .int c_record_readSoFar])), (q_lasts, .inl (E.2.2.1, 300, .inl a_lasts)), (q_owners, .inl (E.2.2.1, 300, .inl a_owners)), (q_record_firsts, .inl (E.2.2.1, 300, .inl a_record_firsts))]
def jr_Transcript_findLasts : Room := { frames := 1, cells := 0, slots := 0, locals := 21 }
set_option maxHeartbeats 4000000 in
set_option maxRecDepth 100000 in
theorem jc_Transcript_findLasts (l : Launch) (E : jE) (q_this q_book q_record q_page q_chord q_lasts q_behinds q_owners q_record_keys q_record_firsts q_record_entries : Nat) (c_size : Int32) (c_raws : Int32) (c_settled : Int32) (c_record_size : Int32) (c_record_readSoFar : Int32) (a_lasts : (Nat → Int32)) (a_owners : (Nat → Int32)) (a_record_firsts : (Nat → Int32)) (N : Nat) {T : Int32 × (Nat → Int32) × (Nat → Int32)} (h : jf_Transcript_findLasts N c_record_size a_record_firsts c_size a_lasts a_owners = some T) : jMv l yX9_findLasts wsX9_findLasts jr_Transcript_findLasts E [.ref q_this] (jw_Transcript_findLasts E q_this q_book q_record q_page q_chord q_lasts q_behinds q_owners q_record_keys q_record_firsts q_record_entries c_size c_raws c_settled c_record_size c_record_readSoFar a_lasts a_owners a_record_firsts) (jw_Transcript_findLasts E q_this q_book q_record q_page q_chord q_lasts q_behinds q_owners q_record_keys q_record_firsts q_record_entries T.1 c_raws c_settled c_record_size c_record_readSoFar T.2.1 T.2.2 a_record_firsts) := by
  refine jMv.begin (cc := cX9_findLasts) (maxL := 5) (ret := none) (by decide) rfl (Nat.le_of_ble_eq_true rfl) ?_
  intro p e s m args below meth c A ls Q hQ hx hb hr hml hown hlocks hts hK hA hP hD hS hl
  replace hown : s.vm.findClass RX9 = some m.cls := hown
  replace hl : lv_has ls 5 [(0, .ref q_this)] := hl
  have hin9 : ∀ w ∈ u_ws RX9 TX9 10, w ∈ wsX9_findLasts := by decide +kernel
  have hk_18 := hts (.fieldLink RX9 18 "StenoRoom$Transcript" "lasts" "[I") (by decide +kernel)
  have hk_25 := hts (.fieldLink RX9 25 "StenoRoom$Transcript" "owners" "[I") (by decide +kernel)
  have hk_32 := hts (.fieldLink RX9 32 "StenoRoom$Transcript" "record" "LStenoRoom$Reading;") (by decide +kernel)
  have hk_61 := hts (.fieldLink RX9 61 "StenoRoom$Transcript" "size" "I") (by decide +kernel)
  have kb126 : ∀ (k69 : Int32 → Int32 → Int32 → (Nat → Int32) → (Nat → Int32) → Option (Int32 × (Nat → Int32) × (Nat → Int32))) (hk69 : ∀ (x1 : Int32) (x3 : Int32) (c_size : Int32) (a_lasts : (Nat → Int32)) (a_owners : (Nat → Int32)) (H : Heap) (locs : List Loc) (ls : Array Slot), k69 x1 x3 c_size a_lasts a_owners = some T → va_P E.1 vwCl (jw_Transcript_findLasts E q_this q_book q_record q_page q_chord q_lasts q_behinds q_owners q_record_keys q_record_firsts q_record_entries c_size c_raws c_settled c_record_size c_record_readSoFar a_lasts a_owners a_record_firsts) H → va_D A (jw_Transcript_findLasts E q_this q_book q_record q_page q_chord q_lasts q_behinds q_owners q_record_keys q_record_firsts q_record_entries c_size c_raws c_settled c_record_size c_record_readSoFar a_lasts a_owners a_record_firsts) → va_S A s.heap H locs → lv_has ls 5 [(0, .ref q_this), (1, .int x1), (3, .int x3)] → W p l e jr_Transcript_findLasts s m args below meth c H locs 0 0 Q (F0 m 69 ls [])) (x1 : Int32) (x3 : Int32) (c_size : Int32) (a_lasts : (Nat → Int32)) (a_owners : (Nat → Int32)) (H : Heap) (locs : List Loc) (ls : Array Slot), jf_Transcript_findLasts_b126 k69 x1 x3 c_size a_lasts a_owners = some T → va_P E.1 vwCl (jw_Transcript_findLasts E q_this q_book q_record q_page q_chord q_lasts q_behinds q_owners q_record_keys q_record_firsts q_record_entries c_size c_raws c_settled c_record_size c_record_readSoFar a_lasts a_owners a_record_firsts) H → va_D A (jw_Transcript_findLasts E q_this q_book q_record q_page q_chord q_lasts q_behinds q_owners q_record_keys q_record_firsts q_record_entries c_size c_raws c_settled c_record_size c_record_readSoFar a_lasts a_owners a_record_firsts) → va_S A s.heap H locs → lv_has ls 5 [(0, .ref q_this), (1, .int x1), (3, .int x3)] → W p l e jr_Transcript_findLasts s m args below meth c H locs 0 0 Q (F0 m 126 ls []) := by
    intro k69 hk69 x1 x3 c_size a_lasts a_owners H locs ls h hP hD hS hl
    unfold jf_Transcript_findLasts_b126 at h
    refine lv_iinc (v := (x3 + 1)) (lv' := [(3, .int (x3 + 1)), (0, .ref q_this), (1, .int x1)]) hx hb dX9_findLasts_126 hl (k := 2) rfl rfl (by decide) rfl (fun ls hl => ?_)
    refine lv_goto (tgt := 69) hx hb dX9_findLasts_129 (by decide) ?_
    exact hk69 x1 (x3 + 1) c_size a_lasts a_owners _ _ _ h hP hD hS (lv_sub hl [1, 2, 0] rfl)
  have kb89 : ∀ (k69 : Int32 → Int32 → Int32 → (Nat → Int32) → (Nat → Int32) → Option (Int32 × (Nat → Int32) × (Nat → Int32))) (hk69 : ∀ (x1 : Int32) (x3 : Int32) (c_size : Int32) (a_lasts : (Nat → Int32)) (a_owners : (Nat → Int32)) (H : Heap) (locs : List Loc) (ls : Array Slot), k69 x1 x3 c_size a_lasts a_owners = some T → va_P E.1 vwCl (jw_Transcript_findLasts E q_this q_book q_record q_page q_chord q_lasts q_behinds q_owners q_record_keys q_record_firsts q_record_entries c_size c_raws c_settled c_record_size c_record_readSoFar a_lasts a_owners a_record_firsts) H → va_D A (jw_Transcript_findLasts E q_this q_book q_record q_page q_chord q_lasts q_behinds q_owners q_record_keys q_record_firsts q_record_entries c_size c_raws c_settled c_record_size c_record_readSoFar a_lasts a_owners a_record_firsts) → va_S A s.heap H locs → lv_has ls 5 [(0, .ref q_this), (1, .int x1), (3, .int x3)] → W p l e jr_Transcript_findLasts s m args below meth c H locs 0 0 Q (F0 m 69 ls [])) (x1 : Int32) (x3 : Int32) (z0 : Int32) (c_size : Int32) (a_lasts : (Nat → Int32)) (a_owners : (Nat → Int32)) (H : Heap) (locs : List Loc) (ls : Array Slot), jf_Transcript_findLasts_b89 k69 x1 x3 z0 c_size a_lasts a_owners = some T → va_P E.1 vwCl (jw_Transcript_findLasts E q_this q_book q_record q_page q_chord q_lasts q_behinds q_owners q_record_keys q_record_firsts q_record_entries c_size c_raws c_settled c_record_size c_record_readSoFar a_lasts a_owners a_record_firsts) H → va_D A (jw_Transcript_findLasts E q_this q_book q_record q_page q_chord q_lasts q_behinds q_owners q_record_keys q_record_firsts q_record_entries c_size c_raws c_settled c_record_size c_record_readSoFar a_lasts a_owners a_record_firsts) → va_S A s.heap H locs → lv_has ls 5 [(0, .ref q_this), (1, .int x1), (3, .int x3)] → W p l e jr_Transcript_findLasts s m args below meth c H locs 0 0 Q (F0 m 89 ls [.int z0]) := by
    intro k69 hk69 x1 x3 z0 c_size a_lasts a_owners H locs ls h hP hD hS hl
    unfold jf_Transcript_findLasts_b89 at h
    refine lv_istore (lv' := [(4, .int z0), (0, .ref q_this), (1, .int x1), (3, .int x3)]) hx hb dX9_findLasts_89 hl (by decide) rfl (fun ls hl => ?_)
    refine lv_aload_n hx hb dX9_findLasts_91 rfl (lv_at hl 1 rfl) ?_
    refine va_get (D := E.1) (ci := 9) (v := .ref q_owners) (C := RX9) (T := TX9) (N := 10) hx hb hts hin9 hown hK.1 hP 0 rfl rfl 6 (by decide) hk_25 (fun _ h9 => h9) rfl dX9_findLasts_92 ?_
    refine lv_iload_n hx hb dX9_findLasts_95 rfl (lv_at hl 3 rfl) ?_
    refine lv_aload_n hx hb dX9_findLasts_96 rfl (lv_at hl 1 rfl) ?_
    refine va_get (D := E.1) (ci := 9) (v := .int c_size) (C := RX9) (T := TX9) (N := 10) hx hb hts hin9 hown hK.1 hP 0 rfl rfl 7 (by decide) hk_61 (fun _ h9 => h9) rfl dX9_findLasts_97 ?_
    obtain ⟨g100, h⟩ := jga_e h
    refine va_iast hx hb hK.1 hP hD hS 3 1 rfl rfl g100 dX9_findLasts_100 (fun H locs hP hD hS => ?_)
    replace hP : va_P E.1 vwCl (jw_Transcript_findLasts E q_this q_book q_record q_page q_chord q_lasts q_behinds q_owners q_record_keys q_record_firsts q_record_entries c_size c_raws c_settled c_record_size c_record_readSoFar a_lasts (upd a_owners x3.toNatClampNeg c_size) a_record_firsts) H := hP
    replace hD : va_D A (jw_Transcript_findLasts E q_this q_book q_record q_page q_chord q_lasts q_behinds q_owners q_record_keys q_record_firsts q_record_entries c_size c_raws c_settled c_record_size c_record_readSoFar a_lasts (upd a_owners x3.toNatClampNeg c_size) a_record_firsts) := hD
    refine lv_iload hx hb dX9_findLasts_101 (lv_at hl 0 rfl) ?_
    refine lv_if_eq (tgt := 126) hx hb dX9_findLasts_103 (by decide) (fun hq103 => ?_) (fun hq103 => ?_)
    · replace h := jif_t hq103 h
      exact kb126 k69 hk69  x1 x3 c_size a_lasts (upd a_owners x3.toNatClampNeg c_size) _ _ _ h hP hD hS (lv_sub hl [1, 2, 3] rfl)
    · replace h := jif_f hq103 h
      refine lv_aload_n hx hb dX9_findLasts_106 rfl (lv_at hl 1 rfl) ?_
      refine va_get (D := E.1) (ci := 9) (v := .ref q_lasts) (C := RX9) (T := TX9) (N := 10) hx hb hts hin9 hown hK.1 hP 0 rfl rfl 4 (by decide) hk_18 (fun _ h9 => h9) rfl dX9_findLasts_107 ?_
      refine lv_aload_n hx hb dX9_findLasts_110 rfl (lv_at hl 1 rfl) ?_
      refine va_get (D := E.1) (ci := 9) (v := .int c_size) (C := RX9) (T := TX9) (N := 10) hx hb hts hin9 hown hK.1 hP 0 rfl rfl 7 (by decide) hk_61 (fun _ h9 => h9) rfl dX9_findLasts_111 ?_
      refine lv_iload_n hx hb dX9_findLasts_114 rfl (lv_at hl 3 rfl) ?_
      obtain ⟨g115, h⟩ := jga_e h
      refine va_iast hx hb hK.1 hP hD hS 2 1 rfl rfl g115 dX9_findLasts_115 (fun H locs hP hD hS => ?_)
      replace hP : va_P E.1 vwCl (jw_Transcript_findLasts E q_this q_book q_record q_page q_chord q_lasts q_behinds q_owners q_record_keys q_record_firsts q_record_entries c_size c_raws c_settled c_record_size c_record_readSoFar (upd a_lasts c_size.toNatClampNeg x3) (upd a_owners x3.toNatClampNeg c_size) a_record_firsts) H := hP
      replace hD : va_D A (jw_Transcript_findLasts E q_this q_book q_record q_page q_chord q_lasts q_behinds q_owners q_record_keys q_record_firsts q_record_entries c_size c_raws c_settled c_record_size c_record_readSoFar (upd a_lasts c_size.toNatClampNeg x3) (upd a_owners x3.toNatClampNeg c_size) a_record_firsts) := hD
      refine lv_aload_n hx hb dX9_findLasts_116 rfl (lv_at hl 1 rfl) ?_
      refine lv_dup hx hb dX9_findLasts_117 rfl ?_
      refine va_get (D := E.1) (ci := 9) (v := .int c_size) (C := RX9) (T := TX9) (N := 10) hx hb hts hin9 hown hK.1 hP 0 rfl rfl 7 (by decide) hk_61 (fun _ h9 => h9) rfl dX9_findLasts_118 ?_
      refine lv_iconst (v := 1) hx hb dX9_findLasts_121 (by decide) ?_
      refine lv_iadd hx hb dX9_findLasts_122 ?_
      refine va_put (D := E.1) (ci := 9) (v := .int (c_size + 1)) (ty := .int) (C := RX9) (T := TX9) (N := 10) hx hb hts hin9 tyX9 tyX9_ok nmX9 hown hK.1 hP hD hS 0 rfl rfl 7 (by decide) hk_61 (fun _ h9 => h9) rfl (by decide +kernel) rfl rfl (Nat.le_of_ble_eq_true rfl) dX9_findLasts_123 (fun H locs hP hD hS => ?_)
      replace hP : va_P E.1 vwCl (jw_Transcript_findLasts E q_this q_book q_record q_page q_chord q_lasts q_behinds q_owners q_record_keys q_record_firsts q_record_entries (c_size + 1) c_raws c_settled c_record_size c_record_readSoFar (upd a_lasts c_size.toNatClampNeg x3) (upd a_owners x3.toNatClampNeg c_size) a_record_firsts) H := hP
      replace hD : va_D A (jw_Transcript_findLasts E q_this q_book q_record q_page q_chord q_lasts q_behinds q_owners q_record_keys q_record_firsts q_record_entries (c_size + 1) c_raws c_settled c_record_size c_record_readSoFar (upd a_lasts c_size.toNatClampNeg x3) (upd a_owners x3.toNatClampNeg c_size) a_record_firsts) := hD
      exact kb126 k69 hk69  x1 x3 (c_size + 1) (upd a_lasts c_size.toNatClampNeg x3) (upd a_owners x3.toNatClampNeg c_size) _ _ _ h hP hD hS (lv_sub hl [1, 2, 3] rfl)
  have kb69 : ∀ (n : Nat) (x1 : Int32) (x3 : Int32) (c_size : Int32) (a_lasts : (Nat → Int32)) (a_owners : (Nat → Int32)) (H : Heap) (locs : List Loc) (ls : Array Slot), jf_Transcript_findLasts_b69 n x1 x3 c_size a_lasts a_owners = some T → va_P E.1 vwCl (jw_Transcript_findLasts E q_this q_book q_record q_page q_chord q_lasts q_behinds q_owners q_record_keys q_record_firsts q_record_entries c_size c_raws c_settled c_record_size c_record_readSoFar a_lasts a_owners a_record_firsts) H → va_D A (jw_Transcript_findLasts E q_this q_book q_record q_page q_chord q_lasts q_behinds q_owners q_record_keys q_record_firsts q_record_entries c_size c_raws c_settled c_record_size c_record_readSoFar a_lasts a_owners a_record_firsts) → va_S A s.heap H locs → lv_has ls 5 [(0, .ref q_this), (1, .int x1), (3, .int x3)] → W p l e jr_Transcript_findLasts s m args below meth c H locs 0 0 Q (F0 m 69 ls []) := by
    intro n
    induction n with
    | zero => intro x1 x3 c_size a_lasts a_owners H locs ls h; exact j_none (α := Int32 × (Nat → Int32) × (Nat → Int32)) h
    | succ n ih =>
      intro x1 x3 c_size a_lasts a_owners H locs ls h hP hD hS hl
      rw [jf_Transcript_findLasts_b69] at h
      refine lv_iload_n hx hb dX9_findLasts_69 rfl (lv_at hl 2 rfl) ?_
      refine lv_iload_n hx hb dX9_findLasts_70 rfl (lv_at hl 1 rfl) ?_
      refine lv_icmp_ge (tgt := 132) hx hb dX9_findLasts_71 (by decide) (fun hq71 => ?_) (fun hq71 => ?_)
      · replace h := jif_t hq71 h
        exact j_vret (u := (c_size, a_lasts, a_owners)) (wv := (fun T => (jw_Transcript_findLasts E q_this q_book q_record q_page q_chord q_lasts q_behinds q_owners q_record_keys q_record_firsts q_record_entries T.1 c_raws c_settled c_record_size c_record_readSoFar T.2.1 T.2.2 a_record_firsts))) h hQ hx hb hr hlocks hS hP hD dX9_findLasts_132
      · replace h := jif_f hq71 h
        refine lv_aload_n hx hb dX9_findLasts_74 rfl (lv_at hl 0 rfl) ?_
        refine va_get (D := E.1) (ci := 9) (v := .ref q_owners) (C := RX9) (T := TX9) (N := 10) hx hb hts hin9 hown hK.1 hP 0 rfl rfl 6 (by decide) hk_25 (fun _ h9 => h9) rfl dX9_findLasts_75 ?_
        refine lv_iload_n hx hb dX9_findLasts_78 rfl (lv_at hl 2 rfl) ?_
        obtain ⟨g79, h⟩ := jga_e h
        refine va_iald hx hb hK.1 hP 3 1 rfl rfl g79 dX9_findLasts_79 ?_
        refine lv_iconst (v := 1) hx hb dX9_findLasts_80 (by decide) ?_
        refine lv_icmp_ne (tgt := 88) hx hb dX9_findLasts_81 (by decide) (fun hq81 => ?_) (fun hq81 => ?_)
        · replace h := jif_f hq81 h
          refine lv_iconst (v := 0) hx hb dX9_findLasts_88 (by decide) ?_
          exact kb89 (jf_Transcript_findLasts_b69  n) ih  x1 x3 0 c_size a_lasts a_owners _ _ _ h hP hD hS (lv_sub hl [0, 1, 2] rfl)
        · replace h := jif_t hq81 h
          refine lv_iconst (v := 1) hx hb dX9_findLasts_84 (by decide) ?_
          refine lv_goto (tgt := 89) hx hb dX9_findLasts_85 (by decide) ?_
          exact kb89 (jf_Transcript_findLasts_b69  n) ih  x1 x3 1 c_size a_lasts a_owners _ _ _ h hP hD hS (lv_sub hl [0, 1, 2] rfl)
  have kb62 : ∀ (x1 : Int32) (c_size : Int32) (a_lasts : (Nat → Int32)) (a_owners : (Nat → Int32)) (H : Heap) (locs : List Loc) (ls : Array Slot), jf_Transcript_findLasts_b62 N x1 c_size a_lasts a_owners = some T → va_P E.1 vwCl (jw_Transcript_findLasts E q_this q_book q_record q_page q_chord q_lasts q_behinds q_owners q_record_keys q_record_firsts q_record_entries c_size c_raws c_settled c_record_size c_record_readSoFar a_lasts a_owners a_record_firsts) H → va_D A (jw_Transcript_findLasts E q_this q_book q_record q_page q_chord q_lasts q_behinds q_owners q_record_keys q_record_firsts q_record_entries c_size c_raws c_settled c_record_size c_record_readSoFar a_lasts a_owners a_record_firsts) → va_S A s.heap H locs → lv_has ls 5 [(0, .ref q_this), (1, .int x1)] → W p l e jr_Transcript_findLasts s m args below meth c H locs 0 0 Q (F0 m 62 ls []) := by
    intro  x1 c_size a_lasts a_owners H locs ls h hP hD hS hl
    unfold jf_Transcript_findLasts_b62 at h
    refine lv_aload_n hx hb dX9_findLasts_62 rfl (lv_at hl 0 rfl) ?_
    refine lv_iconst (v := 0) hx hb dX9_findLasts_63 (by decide) ?_
    refine va_put (D := E.1) (ci := 9) (v := .int 0) (ty := .int) (C := RX9) (T := TX9) (N := 10) hx hb hts hin9 tyX9 tyX9_ok nmX9 hown hK.1 hP hD hS 0 rfl rfl 7 (by decide) hk_61 (fun _ h9 => h9) rfl (by decide +kernel) rfl rfl (Nat.le_of_ble_eq_true rfl) dX9_findLasts_64 (fun H locs hP hD hS => ?_)
    replace hP : va_P E.1 vwCl (jw_Transcript_findLasts E q_this q_book q_record q_page q_chord q_lasts q_behinds q_owners q_record_keys q_record_firsts q_record_entries 0 c_raws c_settled c_record_size c_record_readSoFar a_lasts a_owners a_record_firsts) H := hP
    replace hD : va_D A (jw_Transcript_findLasts E q_this q_book q_record q_page q_chord q_lasts q_behinds q_owners q_record_keys q_record_firsts q_record_entries 0 c_raws c_settled c_record_size c_record_readSoFar a_lasts a_owners a_record_firsts) := hD
    refine lv_iconst (v := 0) hx hb dX9_findLasts_67 (by decide) ?_
    refine lv_istore_n (lv' := [(3, .int 0), (0, .ref q_this), (1, .int x1)]) hx hb dX9_findLasts_68 rfl hl (by decide) rfl (fun ls hl => ?_)
    exact kb69  N x1 0 0 a_lasts a_owners _ _ _ h hP hD hS (lv_sub hl [1, 2, 0] rfl)
  have kb56 : ∀ (k20 : Int32 → Int32 → Int32 → Int32 → (Nat → Int32) → (Nat → Int32) → Option (Int32 × (Nat → Int32) × (Nat → Int32))) (hk20 : ∀ (x1 : Int32) (x2 : Int32) (x3 : Int32) (c_size : Int32) (a_lasts : (Nat → Int32)) (a_owners : (Nat → Int32)) (H : Heap) (locs : List Loc) (ls : Array Slot), k20 x1 x2 x3 c_size a_lasts a_owners = some T → va_P E.1 vwCl (jw_Transcript_findLasts E q_this q_book q_record q_page q_chord q_lasts q_behinds q_owners q_record_keys q_record_firsts q_record_entries c_size c_raws c_settled c_record_size c_record_readSoFar a_lasts a_owners a_record_firsts) H → va_D A (jw_Transcript_findLasts E q_this q_book q_record q_page q_chord q_lasts q_behinds q_owners q_record_keys q_record_firsts q_record_entries c_size c_raws c_settled c_record_size c_record_readSoFar a_lasts a_owners a_record_firsts) → va_S A s.heap H locs → lv_has ls 5 [(0, .ref q_this), (1, .int x1), (2, .int x2), (3, .int x3)] → W p l e jr_Transcript_findLasts s m args below meth c H locs 0 0 Q (F0 m 20 ls [])) (x1 : Int32) (x2 : Int32) (x3 : Int32) (c_size : Int32) (a_lasts : (Nat → Int32)) (a_owners : (Nat → Int32)) (H : Heap) (locs : List Loc) (ls : Array Slot), jf_Transcript_findLasts_b56 k20 x1 x2 x3 c_size a_lasts a_owners = some T → va_P E.1 vwCl (jw_Transcript_findLasts E q_this q_book q_record q_page q_chord q_lasts q_behinds q_owners q_record_keys q_record_firsts q_record_entries c_size c_raws c_settled c_record_size c_record_readSoFar a_lasts a_owners a_record_firsts) H → va_D A (jw_Transcript_findLasts E q_this q_book q_record q_page q_chord q_lasts q_behinds q_owners q_record_keys q_record_firsts q_record_entries c_size c_raws c_settled c_record_size c_record_readSoFar a_lasts a_owners a_record_firsts) → va_S A s.heap H locs → lv_has ls 5 [(0, .ref q_this), (1, .int x1), (2, .int x2), (3, .int x3)] → W p l e jr_Transcript_findLasts s m args below meth c H locs 0 0 Q (F0 m 56 ls []) := by
    intro k20 hk20 x1 x2 x3 c_size a_lasts a_owners H locs ls h hP hD hS hl
    unfold jf_Transcript_findLasts_b56 at h
    refine lv_iinc (v := (x3 + (-1))) (lv' := [(3, .int (x3 + (-1))), (0, .ref q_this), (1, .int x1), (2, .int x2)]) hx hb dX9_findLasts_56 hl (k := 3) rfl rfl (by decide) rfl (fun ls hl => ?_)
    refine lv_goto (tgt := 20) hx hb dX9_findLasts_59 (by decide) ?_
    exact hk20 x1 x2 (x3 + (-1)) c_size a_lasts a_owners _ _ _ h hP hD hS (lv_sub hl [1, 2, 3, 0] rfl)
  have kb39 : ∀ (k20 : Int32 → Int32 → Int32 → Int32 → (Nat → Int32) → (Nat → Int32) → Option (Int32 × (Nat → Int32) × (Nat → Int32))) (hk20 : ∀ (x1 : Int32) (x2 : Int32) (x3 : Int32) (c_size : Int32) (a_lasts : (Nat → Int32)) (a_owners : (Nat → Int32)) (H : Heap) (locs : List Loc) (ls : Array Slot), k20 x1 x2 x3 c_size a_lasts a_owners = some T → va_P E.1 vwCl (jw_Transcript_findLasts E q_this q_book q_record q_page q_chord q_lasts q_behinds q_owners q_record_keys q_record_firsts q_record_entries c_size c_raws c_settled c_record_size c_record_readSoFar a_lasts a_owners a_record_firsts) H → va_D A (jw_Transcript_findLasts E q_this q_book q_record q_page q_chord q_lasts q_behinds q_owners q_record_keys q_record_firsts q_record_entries c_size c_raws c_settled c_record_size c_record_readSoFar a_lasts a_owners a_record_firsts) → va_S A s.heap H locs → lv_has ls 5 [(0, .ref q_this), (1, .int x1), (2, .int x2), (3, .int x3)] → W p l e jr_Transcript_findLasts s m args below meth c H locs 0 0 Q (F0 m 20 ls [])) (x1 : Int32) (x2 : Int32) (x3 : Int32) (z1 : Int32) (z2 : Int32) (c_size : Int32) (a_lasts : (Nat → Int32)) (a_owners : (Nat → Int32)) (H : Heap) (locs : List Loc) (ls : Array Slot), jf_Transcript_findLasts_b39 c_record_size a_record_firsts k20 x1 x2 x3 z1 z2 c_size a_lasts a_owners = some T → va_P E.1 vwCl (jw_Transcript_findLasts E q_this q_book q_record q_page q_chord q_lasts q_behinds q_owners q_record_keys q_record_firsts q_record_entries c_size c_raws c_settled c_record_size c_record_readSoFar a_lasts a_owners a_record_firsts) H → va_D A (jw_Transcript_findLasts E q_this q_book q_record q_page q_chord q_lasts q_behinds q_owners q_record_keys q_record_firsts q_record_entries c_size c_raws c_settled c_record_size c_record_readSoFar a_lasts a_owners a_record_firsts) → va_S A s.heap H locs → lv_has ls 5 [(0, .ref q_this), (1, .int x1), (2, .int x2), (3, .int x3)] → W p l e jr_Transcript_findLasts s m args below meth c H locs 0 0 Q (F0 m 39 ls [.int z2, .int z1, .ref q_owners]) := by
    intro k20 hk20 x1 x2 x3 z1 z2 c_size a_lasts a_owners H locs ls h hP hD hS hl
    unfold jf_Transcript_findLasts_b39 at h
    obtain ⟨g39, h⟩ := jga_e h
    refine va_iast hx hb hK.1 hP hD hS 3 1 rfl rfl g39 dX9_findLasts_39 (fun H locs hP hD hS => ?_)
    replace hP : va_P E.1 vwCl (jw_Transcript_findLasts E q_this q_book q_record q_page q_chord q_lasts q_behinds q_owners q_record_keys q_record_firsts q_record_entries c_size c_raws c_settled c_record_size c_record_readSoFar a_lasts (upd a_owners z1.toNatClampNeg z2) a_record_firsts) H := hP
    replace hD : va_D A (jw_Transcript_findLasts E q_this q_book q_record q_page q_chord q_lasts q_behinds q_owners q_record_keys q_record_firsts q_record_entries c_size c_raws c_settled c_record_size c_record_readSoFar a_lasts (upd a_owners z1.toNatClampNeg z2) a_record_firsts) := hD
    refine lv_iload_n hx hb dX9_findLasts_40 rfl (lv_at hl 3 rfl) ?_
    refine lv_iload_n hx hb dX9_findLasts_41 rfl (lv_at hl 2 rfl) ?_
    refine lv_icmp_ne (tgt := 56) hx hb dX9_findLasts_42 (by decide) (fun hq42 => ?_) (fun hq42 => ?_)
    · replace h := jif_f hq42 h
      exact kb56 k20 hk20  x1 x2 x3 c_size a_lasts (upd a_owners z1.toNatClampNeg z2) _ _ _ h hP hD hS (lv_sub hl [0, 1, 2, 3] rfl)
    · replace h := jif_t hq42 h
      refine lv_aload_n hx hb dX9_findLasts_45 rfl (lv_at hl 0 rfl) ?_
      refine va_get (D := E.1) (ci := 9) (v := .ref q_record) (C := RX9) (T := TX9) (N := 10) hx hb hts hin9 hown hK.1 hP 0 rfl rfl 1 (by decide) hk_32 (fun _ h9 => h9) rfl dX9_findLasts_46 ?_
      refine lv_iload_n hx hb dX9_findLasts_49 rfl (lv_at hl 3 rfl) ?_
      obtain ⟨r50, hf50, h⟩ := jbd h
      refine j_callVi (own := RX9) (As := [.int x3]) (rest := []) hx hb hml hown hts hK hA hP hD hS (jc_Reading_firstAt l E q_record q_book q_record_keys q_record_firsts q_record_entries c_record_size c_record_readSoFar a_record_firsts x3 N hf50) gX9_findLasts_X6_firstAt rfl ⟨rfl, rfl⟩ 1 (by decide +kernel) rfl rfl 1 6 rfl rfl [1, 4] [0, 2, 3] [0, 3, 1, 2, 4] rfl rfl rfl rfl rfl rfl rfl hl.1 rfl rfl dX9_findLasts_50 (fun H locs hP hD hS => ?_)
      replace hP : va_P E.1 vwCl (jw_Transcript_findLasts E q_this q_book q_record q_page q_chord q_lasts q_behinds q_owners q_record_keys q_record_firsts q_record_entries c_size c_raws c_settled c_record_size c_record_readSoFar a_lasts (upd a_owners z1.toNatClampNeg z2) a_record_firsts) H := hP
      replace hD : va_D A (jw_Transcript_findLasts E q_this q_book q_record q_page q_chord q_lasts q_behinds q_owners q_record_keys q_record_firsts q_record_entries c_size c_raws c_settled c_record_size c_record_readSoFar a_lasts (upd a_owners z1.toNatClampNeg z2) a_record_firsts) := hD
      refine lv_iconst (v := 1) hx hb dX9_findLasts_53 (by decide) ?_
      refine lv_isub hx hb dX9_findLasts_54 ?_
      refine lv_istore_n (lv' := [(2, .int (r50 - 1)), (0, .ref q_this), (1, .int x1), (3, .int x3)]) hx hb dX9_findLasts_55 rfl hl (by decide) rfl (fun ls hl => ?_)
      exact kb56 k20 hk20  x1 (r50 - 1) x3 c_size a_lasts (upd a_owners z1.toNatClampNeg z2) _ _ _ h hP hD hS (lv_sub hl [1, 2, 0, 3] rfl)
  have kb20 : ∀ (n : Nat) (x1 : Int32) (x2 : Int32) (x3 : Int32) (c_size : Int32) (a_lasts : (Nat → Int32)) (a_owners : (Nat → Int32)) (H : Heap) (locs : List Loc) (ls : Array Slot), jf_Transcript_findLasts_b20 N c_record_size a_record_firsts n x1 x2 x3 c_size a_lasts a_owners = some T → va_P E.1 vwCl (jw_Transcript_findLasts E q_this q_book q_record q_page q_chord q_lasts q_behinds q_owners q_record_keys q_record_firsts q_record_entries c_size c_raws c_settled c_record_size c_record_readSoFar a_lasts a_owners a_record_firsts) H → va_D A (jw_Transcript_findLasts E q_this q_book q_record q_page q_chord q_lasts q_behinds q_owners q_record_keys q_record_firsts q_record_entries c_size c_raws c_settled c_record_size c_record_readSoFar a_lasts a_owners a_record_firsts) → va_S A s.heap H locs → lv_has ls 5 [(0, .ref q_this), (1, .int x1), (2, .int x2), (3, .int x3)] → W p l e jr_Transcript_findLasts s m args below meth c H locs 0 0 Q (F0 m 20 ls []) := by
    intro n
    induction n with
    | zero => intro x1 x2 x3 c_size a_lasts a_owners H locs ls h; exact j_none (α := Int32 × (Nat → Int32) × (Nat → Int32)) h
    | succ n ih =>
      intro x1 x2 x3 c_size a_lasts a_owners H locs ls h hP hD hS hl
      rw [jf_Transcript_findLasts_b20] at h
      refine lv_iload_n hx hb dX9_findLasts_20 rfl (lv_at hl 3 rfl) ?_
      refine lv_if_lt (tgt := 62) hx hb dX9_findLasts_21 (by decide) (fun hq21 => ?_) (fun hq21 => ?_)
      · replace h := jif_t hq21 h
        exact kb62   x1 c_size a_lasts a_owners _ _ _ h hP hD hS (lv_sub hl [0, 1] rfl)
      · replace h := jif_f hq21 h
        refine lv_aload_n hx hb dX9_findLasts_24 rfl (lv_at hl 0 rfl) ?_
        refine va_get (D := E.1) (ci := 9) (v := .ref q_owners) (C := RX9) (T := TX9) (N := 10) hx hb hts hin9 hown hK.1 hP 0 rfl rfl 6 (by decide) hk_25 (fun _ h9 => h9) rfl dX9_findLasts_25 ?_
        refine lv_iload_n hx hb dX9_findLasts_28 rfl (lv_at hl 3 rfl) ?_
        refine lv_iload_n hx hb dX9_findLasts_29 rfl (lv_at hl 3 rfl) ?_
        refine lv_iload_n hx hb dX9_findLasts_30 rfl (lv_at hl 2 rfl) ?_
        refine lv_icmp_ne (tgt := 38) hx hb dX9_findLasts_31 (by decide) (fun hq31 => ?_) (fun hq31 => ?_)
        · replace h := jif_f hq31 h
          refine lv_iconst (v := 0) hx hb dX9_findLasts_38 (by decide) ?_
          exact kb39 (jf_Transcript_findLasts_b20 N c_record_size a_record_firsts n) ih  x1 x2 x3 x3 0 c_size a_lasts a_owners _ _ _ h hP hD hS (lv_sub hl [0, 1, 2, 3] rfl)
        · replace h := jif_t hq31 h
          refine lv_iconst (v := 1) hx hb dX9_findLasts_34 (by decide) ?_
          refine lv_goto (tgt := 39) hx hb dX9_findLasts_35 (by decide) ?_
          exact kb39 (jf_Transcript_findLasts_b20 N c_record_size a_record_firsts n) ih  x1 x2 x3 x3 1 c_size a_lasts a_owners _ _ _ h hP hD hS (lv_sub hl [0, 1, 2, 3] rfl)
  unfold jf_Transcript_findLasts at h
  refine lv_aload_n hx hb dX9_findLasts_0 rfl (lv_at hl 0 rfl) ?_
  refine va_get (D := E.1) (ci := 9) (v := .ref q_record) (C := RX9) (T := TX9) (N := 10) hx hb hts hin9 hown hK.1 hP 0 rfl rfl 1 (by decide) hk_32 (fun _ h9 => h9) rfl dX9_findLasts_1 ?_
  obtain ⟨r4, hf4, h⟩ := jbd h
  refine j_callVi (own := RX9) (As := []) (rest := []) hx hb hml hown hts hK hA hP hD hS (jc_Reading_size l E q_record q_book q_record_keys q_record_firsts q_record_entries c_record_size c_record_readSoFar N hf4) gX9_findLasts_X6_size rfl ⟨rfl, rfl⟩ 0 (by decide +kernel) rfl rfl 1 6 rfl rfl [1] [0, 2, 3, 4] [0, 4, 1, 2, 3] rfl rfl rfl rfl rfl rfl rfl hl.1 rfl rfl dX9_findLasts_4 (fun H locs hP hD hS => ?_)
  replace hP : va_P E.1 vwCl (jw_Transcript_findLasts E q_this q_book q_record q_page q_chord q_lasts q_behinds q_owners q_record_keys q_record_firsts q_record_entries c_size c_raws c_settled c_record_size c_record_readSoFar a_lasts a_owners a_record_firsts) H := hP
  replace hD : va_D A (jw_Transcript_findLasts E q_this q_book q_record q_page q_chord q_lasts q_behinds q_owners q_record_keys q_record_firsts q_record_entries c_size c_raws c_settled c_record_size c_record_readSoFar a_lasts a_owners a_record_firsts) := hD
  refine lv_sipush (v := 300) hx hb dX9_findLasts_7 (by decide) ?_
  refine va_mmin hx hb (hml.trans hl.1.symm) hown (hts (.methodLink RX9 92 Lib.Math.min.name) (by decide +kernel)) (hts (.static Lib.Math.min.name) (by decide +kernel)) (hts (.initialized "java/lang/Math") (by decide +kernel)) (hts (.code Lib.Math.min.name Lib.Math.min.code 2 (some .int)) (by decide +kernel)) (Nat.le_of_ble_eq_true rfl) (Nat.le_of_ble_eq_true rfl) (Nat.zero_le _) (Nat.zero_le _) dX9_findLasts_10 ?_
  refine lv_istore_n (lv' := [(1, .int (if 300 < r4 then 300 else r4)), (0, .ref q_this)]) hx hb dX9_findLasts_13 rfl hl (by decide) rfl (fun ls hl => ?_)
  refine lv_iload_n hx hb dX9_findLasts_14 rfl (lv_at hl 0 rfl) ?_
  refine lv_iconst (v := 1) hx hb dX9_findLasts_15 (by decide) ?_
  refine lv_isub hx hb dX9_findLasts_16 ?_
  refine lv_istore_n (lv' := [(2, .int ((if 300 < r4 then 300 else r4) - 1)), (1, .int (if 300 < r4 then 300 else r4)), (0, .ref q_this)]) hx hb dX9_findLasts_17 rfl hl (by decide) rfl (fun ls hl => ?_)
  refine lv_iload_n hx hb dX9_findLasts_18 rfl (lv_at hl 0 rfl) ?_
  refine lv_istore_n (lv' := [(3, .int ((if 300 < r4 then 300 else r4) - 1)), (2, .int ((if 300 < r4 then 300 else r4) - 1)), (1, .int (if 300 < r4 then 300 else r4)), (0, .ref q_this)]) hx hb dX9_findLasts_19 rfl hl (by decide) rfl (fun ls hl => ?_)
  exact kb20  N (if 300 < r4 then 300 else r4) ((if 300 < r4 then 300 else r4) - 1) ((if 300 < r4 then 300 else r4) - 1) c_size a_lasts a_owners _ _ _ h hP hD hS (lv_sub hl [3, 2, 1, 0] rfl)
abbrev jw_Page_empty (E : jE) (q_this q_book q_bytes : Nat) (c_size : Int32) (c_shift : Int32) (c_link : Int32) (c_lastWordLength : Int32) (c_lastWordVowels : Int32) : va_W := [(q_this, .inr (4, [.ref q_book, .ref q_bytes, .int c_size, .int c_shift, .int c_link, .int c_lastWordLength, .int c_lastWordVowels]))]
def jr_Page_empty : Room := { frames := 0, cells := 0, slots := 0, locals := 0 }
set_option maxHeartbeats 4000000 in
set_option maxRecDepth 100000 in
theorem jc_Page_empty (l : Launch) (E : jE) (q_this q_book q_bytes : Nat) (c_size : Int32) (c_shift : Int32) (c_link : Int32) (c_lastWordLength : Int32) (c_lastWordVowels : Int32) (N : Nat) {T : Int32 × Int32 × Int32} (h : jf_Page_empty c_size c_shift c_link = some T) : jMv l yX4_empty wsX4_empty jr_Page_empty E [.ref q_this] (jw_Page_empty E q_this q_book q_bytes c_size c_shift c_link c_lastWordLength c_lastWordVowels) (jw_Page_empty E q_this q_book q_bytes T.1 T.2.1 T.2.2 c_lastWordLength c_lastWordVowels) := by
  refine jMv.begin (cc := cX4_empty) (maxL := 1) (ret := none) (by decide) rfl (Nat.le_of_ble_eq_true rfl) ?_
  intro p e s m args below meth c A ls Q hQ hx hb hr hml hown hlocks hts hK hA hP hD hS hl
  replace hown : s.vm.findClass RX4 = some m.cls := hown
  replace hl : lv_has ls 1 [(0, .ref q_this)] := hl
  have hin4 : ∀ w ∈ u_ws RX4 TX4 7, w ∈ wsX4_empty := by decide +kernel
  have hk_25 := hts (.fieldLink RX4 25 "StenoRoom$Page" "size" "I") (by decide +kernel)
  have hk_29 := hts (.fieldLink RX4 29 "StenoRoom$Page" "shift" "I") (by decide +kernel)
  have hk_32 := hts (.fieldLink RX4 32 "StenoRoom$Page" "link" "I") (by decide +kernel)
  unfold jf_Page_empty at h
  refine lv_aload_n hx hb dX4_empty_0 rfl (lv_at hl 0 rfl) ?_
  refine lv_iconst (v := 0) hx hb dX4_empty_1 (by decide) ?_
  refine va_put (D := E.1) (ci := 4) (v := .int 0) (ty := .int) (C := RX4) (T := TX4) (N := 7) hx hb hts hin4 tyX4 tyX4_ok nmX4 hown hK.1 hP hD hS 0 rfl rfl 2 (by decide) hk_25 (fun _ h9 => h9) rfl (by decide +kernel) rfl rfl (Nat.le_of_ble_eq_true rfl) dX4_empty_2 (fun H locs hP hD hS => ?_)
  replace hP : va_P E.1 vwCl (jw_Page_empty E q_this q_book q_bytes 0 c_shift c_link c_lastWordLength c_lastWordVowels) H := hP
  replace hD : va_D A (jw_Page_empty E q_this q_book q_bytes 0 c_shift c_link c_lastWordLength c_lastWordVowels) := hD
  refine lv_aload_n hx hb dX4_empty_5 rfl (lv_at hl 0 rfl) ?_
  refine lv_iconst (v := 0) hx hb dX4_empty_6 (by decide) ?_
  refine va_put (D := E.1) (ci := 4) (v := .int 0) (ty := .int) (C := RX4) (T := TX4) (N := 7) hx hb hts hin4 tyX4 tyX4_ok nmX4 hown hK.1 hP hD hS 0 rfl rfl 3 (by decide) hk_29 (fun _ h9 => h9) rfl (by decide +kernel) rfl rfl (Nat.le_of_ble_eq_true rfl) dX4_empty_7 (fun H locs hP hD hS => ?_)
  replace hP : va_P E.1 vwCl (jw_Page_empty E q_this q_book q_bytes 0 0 c_link c_lastWordLength c_lastWordVowels) H := hP
  replace hD : va_D A (jw_Page_empty E q_this q_book q_bytes 0 0 c_link c_lastWordLength c_lastWordVowels) := hD
  refine lv_aload_n hx hb dX4_empty_10 rfl (lv_at hl 0 rfl) ?_
  refine lv_iconst (v := 0) hx hb dX4_empty_11 (by decide) ?_
  refine va_put (D := E.1) (ci := 4) (v := .int 0) (ty := .int) (C := RX4) (T := TX4) (N := 7) hx hb hts hin4 tyX4 tyX4_ok nmX4 hown hK.1 hP hD hS 0 rfl rfl 4 (by decide) hk_32 (fun _ h9 => h9) rfl (by decide +kernel) rfl rfl (Nat.le_of_ble_eq_true rfl) dX4_empty_12 (fun H locs hP hD hS => ?_)
  replace hP : va_P E.1 vwCl (jw_Page_empty E q_this q_book q_bytes 0 0 0 c_lastWordLength c_lastWordVowels) H := hP
  replace hD : va_D A (jw_Page_empty E q_this q_book q_bytes 0 0 0 c_lastWordLength c_lastWordVowels) := hD
  exact j_vret (u := (0, 0, 0)) (wv := (fun T => (jw_Page_empty E q_this q_book q_bytes T.1 T.2.1 T.2.2 c_lastWordLength c_lastWordVowels))) h hQ hx hb hr hlocks hS hP hD dX4_empty_15
abbrev jw_Transcript_lastOf (E : jE) (q_this q_book q_record q_page q_chord q_lasts q_behinds q_owners : Nat) (c_size : Int32) (c_raws : Int32) (c_settled : Int32) (a_lasts : (Nat → Int32)) : va_W := [(q_this, .inr (9, [.ref q_book, .ref q_record, .ref q_page, .ref q_chord, .ref q_lasts, .ref q_behinds, .ref q_owners, .int c_size, .int c_raws, .int c_settled])), (q_lasts, .inl (E.2.2.1, 300, .inl a_lasts))]
def jr_Transcript_lastOf : Room := { frames := 0, cells := 0, slots := 0, locals := 0 }
set_option maxHeartbeats 4000000 in
set_option maxRecDepth 100000 in
theorem jc_Transcript_lastOf (l : Launch) (E : jE) (q_this q_book q_record q_page q_chord q_lasts q_behinds q_owners : Nat) (c_size : Int32) (c_raws : Int32) (c_settled : Int32) (a_lasts : (Nat → Int32)) (x1 : Int32) (N : Nat) {T : Int32} (h : jf_Transcript_lastOf x1 c_size a_lasts = some T) : jMi l yX9_lastOf wsX9_lastOf jr_Transcript_lastOf E [.ref q_this, .int x1] (jw_Transcript_lastOf E q_this q_book q_record q_page q_chord q_lasts q_behinds q_owners c_size c_raws c_settled a_lasts) (T) (jw_Transcript_lastOf E q_this q_book q_record q_page q_chord q_lasts q_behinds q_owners c_size c_raws c_settled a_lasts) := by
  refine jMi.begin (cc := cX9_lastOf) (maxL := 2) (ret := (some .int)) (by decide) rfl (Nat.le_of_ble_eq_true rfl) ?_
  intro p e s m args below meth c A ls Q hQ hx hb hr hml hown hlocks hts hK hA hP hD hS hl
  replace hown : s.vm.findClass RX9 = some m.cls := hown
  replace hl : lv_has ls 2 [(0, .ref q_this), (1, .int x1)] := hl
  have hin9 : ∀ w ∈ u_ws RX9 TX9 10, w ∈ wsX9_lastOf := by decide +kernel
  have hk_18 := hts (.fieldLink RX9 18 "StenoRoom$Transcript" "lasts" "[I") (by decide +kernel)
  have hk_61 := hts (.fieldLink RX9 61 "StenoRoom$Transcript" "size" "I") (by decide +kernel)
  unfold jf_Transcript_lastOf at h
  refine lv_iload_n hx hb dX9_lastOf_0 rfl (lv_at hl 1 rfl) ?_
  refine lv_if_lt (tgt := 21) hx hb dX9_lastOf_1 (by decide) (fun hq1 => ?_) (fun hq1 => ?_)
  · replace h := jif_t hq1 h
    refine lv_iconst (v := (-1)) hx hb dX9_lastOf_21 (by decide) ?_
    exact j_iret (u := (-1)) (rv := (fun T => T)) (wv := (fun _ => (jw_Transcript_lastOf E q_this q_book q_record q_page q_chord q_lasts q_behinds q_owners c_size c_raws c_settled a_lasts))) h hQ hx hb hr rfl hlocks hS hP hD dX9_lastOf_22
  · replace h := jif_f hq1 h
    refine lv_iload_n hx hb dX9_lastOf_4 rfl (lv_at hl 1 rfl) ?_
    refine lv_aload_n hx hb dX9_lastOf_5 rfl (lv_at hl 0 rfl) ?_
    refine va_get (D := E.1) (ci := 9) (v := .int c_size) (C := RX9) (T := TX9) (N := 10) hx hb hts hin9 hown hK.1 hP 0 rfl rfl 7 (by decide) hk_61 (fun _ h9 => h9) rfl dX9_lastOf_6 ?_
    refine lv_icmp_ge (tgt := 21) hx hb dX9_lastOf_9 (by decide) (fun hq9 => ?_) (fun hq9 => ?_)
    · replace h := jif_t hq9 h
      refine lv_iconst (v := (-1)) hx hb dX9_lastOf_21 (by decide) ?_
      exact j_iret (u := (-1)) (rv := (fun T => T)) (wv := (fun _ => (jw_Transcript_lastOf E q_this q_book q_record q_page q_chord q_lasts q_behinds q_owners c_size c_raws c_settled a_lasts))) h hQ hx hb hr rfl hlocks hS hP hD dX9_lastOf_22
    · replace h := jif_f hq9 h
      refine lv_aload_n hx hb dX9_lastOf_12 rfl (lv_at hl 0 rfl) ?_
      refine va_get (D := E.1) (ci := 9) (v := .ref q_lasts) (C := RX9) (T := TX9) (N := 10) hx hb hts hin9 hown hK.1 hP 0 rfl rfl 4 (by decide) hk_18 (fun _ h9 => h9) rfl dX9_lastOf_13 ?_
      refine lv_iload_n hx hb dX9_lastOf_16 rfl (lv_at hl 1 rfl) ?_
      obtain ⟨g17, h⟩ := jga_e h
      refine va_iald hx hb hK.1 hP 1 1 rfl rfl g17 dX9_lastOf_17 ?_
      refine lv_goto (tgt := 22) hx hb dX9_lastOf_18 (by decide) ?_
      exact j_iret (u := (a_lasts x1.toNatClampNeg)) (rv := (fun T => T)) (wv := (fun _ => (jw_Transcript_lastOf E q_this q_book q_record q_page q_chord q_lasts q_behinds q_owners c_size c_raws c_settled a_lasts))) h hQ hx hb hr rfl hlocks hS hP hD dX9_lastOf_22
abbrev jw_Reading_entryAt (E : jE) (q_this q_book q_keys q_firsts q_entries : Nat) (c_size : Int32) (c_readSoFar : Int32) (a_entries : (Nat → Int32)) : va_W := [(q_this, .inr (6, [.ref q_book, .ref q_keys, .ref q_firsts, .ref q_entries, .int c_size, .int c_readSoFar])), (q_entries, .inl (E.2.2.1, 300, .inl a_entries))]
def jr_Reading_entryAt : Room := { frames := 0, cells := 0, slots := 0, locals := 0 }
set_option maxHeartbeats 4000000 in
set_option maxRecDepth 100000 in
theorem jc_Reading_entryAt (l : Launch) (E : jE) (q_this q_book q_keys q_firsts q_entries : Nat) (c_size : Int32) (c_readSoFar : Int32) (a_entries : (Nat → Int32)) (x1 : Int32) (N : Nat) {T : Int32} (h : jf_Reading_entryAt x1 c_size a_entries = some T) : jMi l yX6_entryAt wsX6_entryAt jr_Reading_entryAt E [.ref q_this, .int x1] (jw_Reading_entryAt E q_this q_book q_keys q_firsts q_entries c_size c_readSoFar a_entries) (T) (jw_Reading_entryAt E q_this q_book q_keys q_firsts q_entries c_size c_readSoFar a_entries) := by
  refine jMi.begin (cc := cX6_entryAt) (maxL := 2) (ret := (some .int)) (by decide) rfl (Nat.le_of_ble_eq_true rfl) ?_
  intro p e s m args below meth c A ls Q hQ hx hb hr hml hown hlocks hts hK hA hP hD hS hl
  replace hown : s.vm.findClass RX6 = some m.cls := hown
  replace hl : lv_has ls 2 [(0, .ref q_this), (1, .int x1)] := hl
  have hin6 : ∀ w ∈ u_ws RX6 TX6 6, w ∈ wsX6_entryAt := by decide +kernel
  have hk_18 := hts (.fieldLink RX6 18 "StenoRoom$Reading" "entries" "[I") (by decide +kernel)
  have hk_25 := hts (.fieldLink RX6 25 "StenoRoom$Reading" "size" "I") (by decide +kernel)
  unfold jf_Reading_entryAt at h
  refine lv_iload_n hx hb dX6_entryAt_0 rfl (lv_at hl 1 rfl) ?_
  refine lv_if_lt (tgt := 21) hx hb dX6_entryAt_1 (by decide) (fun hq1 => ?_) (fun hq1 => ?_)
  · replace h := jif_t hq1 h
    refine lv_iconst (v := (-1)) hx hb dX6_entryAt_21 (by decide) ?_
    exact j_iret (u := (-1)) (rv := (fun T => T)) (wv := (fun _ => (jw_Reading_entryAt E q_this q_book q_keys q_firsts q_entries c_size c_readSoFar a_entries))) h hQ hx hb hr rfl hlocks hS hP hD dX6_entryAt_22
  · replace h := jif_f hq1 h
    refine lv_iload_n hx hb dX6_entryAt_4 rfl (lv_at hl 1 rfl) ?_
    refine lv_aload_n hx hb dX6_entryAt_5 rfl (lv_at hl 0 rfl) ?_
    refine va_get (D := E.1) (ci := 6) (v := .int c_size) (C := RX6) (T := TX6) (N := 6) hx hb hts hin6 hown hK.1 hP 0 rfl rfl 4 (by decide) hk_25 (fun _ h9 => h9) rfl dX6_entryAt_6 ?_
    refine lv_icmp_ge (tgt := 21) hx hb dX6_entryAt_9 (by decide) (fun hq9 => ?_) (fun hq9 => ?_)
    · replace h := jif_t hq9 h
      refine lv_iconst (v := (-1)) hx hb dX6_entryAt_21 (by decide) ?_
      exact j_iret (u := (-1)) (rv := (fun T => T)) (wv := (fun _ => (jw_Reading_entryAt E q_this q_book q_keys q_firsts q_entries c_size c_readSoFar a_entries))) h hQ hx hb hr rfl hlocks hS hP hD dX6_entryAt_22
    · replace h := jif_f hq9 h
      refine lv_aload_n hx hb dX6_entryAt_12 rfl (lv_at hl 0 rfl) ?_
      refine va_get (D := E.1) (ci := 6) (v := .ref q_entries) (C := RX6) (T := TX6) (N := 6) hx hb hts hin6 hown hK.1 hP 0 rfl rfl 3 (by decide) hk_18 (fun _ h9 => h9) rfl dX6_entryAt_13 ?_
      refine lv_iload_n hx hb dX6_entryAt_16 rfl (lv_at hl 1 rfl) ?_
      obtain ⟨g17, h⟩ := jga_e h
      refine va_iald hx hb hK.1 hP 1 1 rfl rfl g17 dX6_entryAt_17 ?_
      refine lv_goto (tgt := 22) hx hb dX6_entryAt_18 (by decide) ?_
      exact j_iret (u := (a_entries x1.toNatClampNeg)) (rv := (fun T => T)) (wv := (fun _ => (jw_Reading_entryAt E q_this q_book q_keys q_firsts q_entries c_size c_readSoFar a_entries))) h hQ hx hb hr rfl hlocks hS hP hD dX6_entryAt_22
abbrev jw_Transcript_entryOf (E : jE) (q_this q_book q_record q_page q_chord q_lasts q_behinds q_owners q_record_keys q_record_firsts q_record_entries : Nat) (c_size : Int32) (c_raws : Int32) (c_settled : Int32) (c_record_size : Int32) (c_record_readSoFar : Int32) (a_lasts : (Nat → Int32)) (a_record_entries : (Nat → Int32)) : va_W := [(q_this, .inr (9, [.ref q_book, .ref q_record, .ref q_page, .ref q_chord, .ref q_lasts, .ref q_behinds, .ref q_owners, .int c_size, .int c_raws, .int c_settled])), (q_record, .inr (6, [.ref q_book, .ref q_record_keys, .ref q_record_firsts, .ref q_record_entries, .int c_record_size, .int c_record_readSoFar])), (q_lasts, .inl (E.2.2.1, 300, .inl a_lasts)), (q_record_entries, .inl (E.2.2.1, 300, .inl a_record_entries))]
def jr_Transcript_entryOf : Room := { frames := 1, cells := 0, slots := 0, locals := 21 }
set_option maxHeartbeats 4000000 in
set_option maxRecDepth 100000 in
theorem jc_Transcript_entryOf (l : Launch) (E : jE) (q_this q_book q_record q_page q_chord q_lasts q_behinds q_owners q_record_keys q_record_firsts q_record_entries : Nat) (c_size : Int32) (c_raws : Int32) (c_settled : Int32) (c_record_size : Int32) (c_record_readSoFar : Int32) (a_lasts : (Nat → Int32)) (a_record_entries : (Nat → Int32)) (x1 : Int32) (N : Nat) {T : Int32} (h : jf_Transcript_entryOf x1 c_size c_record_size a_lasts a_record_entries = some T) : jMi l yX9_entryOf wsX9_entryOf jr_Transcript_entryOf E [.ref q_this, .int x1] (jw_Transcript_entryOf E q_this q_book q_record q_page q_chord q_lasts q_behinds q_owners q_record_keys q_record_firsts q_record_entries c_size c_raws c_settled c_record_size c_record_readSoFar a_lasts a_record_entries) (T) (jw_Transcript_entryOf E q_this q_book q_record q_page q_chord q_lasts q_behinds q_owners q_record_keys q_record_firsts q_record_entries c_size c_raws c_settled c_record_size c_record_readSoFar a_lasts a_record_entries) := by
  refine jMi.begin (cc := cX9_entryOf) (maxL := 2) (ret := (some .int)) (by decide) rfl (Nat.le_of_ble_eq_true rfl) ?_
  intro p e s m args below meth c A ls Q hQ hx hb hr hml hown hlocks hts hK hA hP hD hS hl
  replace hown : s.vm.findClass RX9 = some m.cls := hown
  replace hl : lv_has ls 2 [(0, .ref q_this), (1, .int x1)] := hl
  have hin9 : ∀ w ∈ u_ws RX9 TX9 10, w ∈ wsX9_entryOf := by decide +kernel
  have hk_32 := hts (.fieldLink RX9 32 "StenoRoom$Transcript" "record" "LStenoRoom$Reading;") (by decide +kernel)
  unfold jf_Transcript_entryOf at h
  refine lv_aload_n hx hb dX9_entryOf_0 rfl (lv_at hl 0 rfl) ?_
  refine va_get (D := E.1) (ci := 9) (v := .ref q_record) (C := RX9) (T := TX9) (N := 10) hx hb hts hin9 hown hK.1 hP 0 rfl rfl 1 (by decide) hk_32 (fun _ h9 => h9) rfl dX9_entryOf_1 ?_
  refine lv_aload_n hx hb dX9_entryOf_4 rfl (lv_at hl 0 rfl) ?_
  refine lv_iload_n hx hb dX9_entryOf_5 rfl (lv_at hl 1 rfl) ?_
  obtain ⟨r6, hf6, h⟩ := jbd h
  refine j_callVi (own := RX9) (As := [.int x1]) (rest := [.ref q_record]) hx hb hml hown hts hK hA hP hD hS (jc_Transcript_lastOf l E q_this q_book q_record q_page q_chord q_lasts q_behinds q_owners c_size c_raws c_settled a_lasts x1 N hf6) gX9_entryOf_X9_lastOf rfl ⟨rfl, rfl⟩ 1 (by decide +kernel) rfl rfl 0 9 rfl rfl [0, 2] [1, 3] [2, 0, 3, 1] rfl rfl rfl rfl rfl rfl rfl hl.1 rfl rfl dX9_entryOf_6 (fun H locs hP hD hS => ?_)
  replace hP : va_P E.1 vwCl (jw_Transcript_entryOf E q_this q_book q_record q_page q_chord q_lasts q_behinds q_owners q_record_keys q_record_firsts q_record_entries c_size c_raws c_settled c_record_size c_record_readSoFar a_lasts a_record_entries) H := hP
  replace hD : va_D A (jw_Transcript_entryOf E q_this q_book q_record q_page q_chord q_lasts q_behinds q_owners q_record_keys q_record_firsts q_record_entries c_size c_raws c_settled c_record_size c_record_readSoFar a_lasts a_record_entries) := hD
  obtain ⟨r9, hf9, h⟩ := jbd h
  refine j_callVi (own := RX9) (As := [.int r6]) (rest := []) hx hb hml hown hts hK hA hP hD hS (jc_Reading_entryAt l E q_record q_book q_record_keys q_record_firsts q_record_entries c_record_size c_record_readSoFar a_record_entries r6 N hf9) gX9_entryOf_X6_entryAt rfl ⟨rfl, rfl⟩ 1 (by decide +kernel) rfl rfl 1 6 rfl rfl [1, 3] [0, 2] [0, 2, 1, 3] rfl rfl rfl rfl rfl rfl rfl hl.1 rfl rfl dX9_entryOf_9 (fun H locs hP hD hS => ?_)
  replace hP : va_P E.1 vwCl (jw_Transcript_entryOf E q_this q_book q_record q_page q_chord q_lasts q_behinds q_owners q_record_keys q_record_firsts q_record_entries c_size c_raws c_settled c_record_size c_record_readSoFar a_lasts a_record_entries) H := hP
  replace hD : va_D A (jw_Transcript_entryOf E q_this q_book q_record q_page q_chord q_lasts q_behinds q_owners q_record_keys q_record_firsts q_record_entries c_size c_raws c_settled c_record_size c_record_readSoFar a_lasts a_record_entries) := hD
  exact j_iret (u := r9) (rv := (fun T => T)) (wv := (fun _ => (jw_Transcript_entryOf E q_this q_book q_record q_page q_chord q_lasts q_behinds q_owners q_record_keys q_record_firsts q_record_entries c_size c_raws c_settled c_record_size c_record_readSoFar a_lasts a_record_entries))) h hQ hx hb hr rfl hlocks hS hP hD dX9_entryOf_12
abbrev jw_Book_kindOf (E : jE) (q_this q_kinds q_strokeCounts q_strokes q_lengths q_letters : Nat) (c_size : Int32) (a_kinds : (Nat → Int32)) : va_W := [(q_this, .inr (0, [.ref q_kinds, .ref q_strokeCounts, .ref q_strokes, .ref q_lengths, .ref q_letters, .int c_size])), (q_kinds, .inl (E.2.2.1, 60, .inl a_kinds))]
def jr_Book_kindOf : Room := { frames := 0, cells := 0, slots := 0, locals := 0 }
set_option maxHeartbeats 4000000 in
set_option maxRecDepth 100000 in
theorem jc_Book_kindOf (l : Launch) (E : jE) (q_this q_kinds q_strokeCounts q_strokes q_lengths q_letters : Nat) (c_size : Int32) (a_kinds : (Nat → Int32)) (x1 : Int32) (N : Nat) {T : Int32} (h : jf_Book_kindOf x1 c_size a_kinds = some T) : jMi l yX0_kindOf wsX0_kindOf jr_Book_kindOf E [.ref q_this, .int x1] (jw_Book_kindOf E q_this q_kinds q_strokeCounts q_strokes q_lengths q_letters c_size a_kinds) (T) (jw_Book_kindOf E q_this q_kinds q_strokeCounts q_strokes q_lengths q_letters c_size a_kinds) := by
  refine jMi.begin (cc := cX0_kindOf) (maxL := 2) (ret := (some .int)) (by decide) rfl (Nat.le_of_ble_eq_true rfl) ?_
  intro p e s m args below meth c A ls Q hQ hx hb hr hml hown hlocks hts hK hA hP hD hS hl
  replace hown : s.vm.findClass RX0 = some m.cls := hown
  replace hl : lv_has ls 2 [(0, .ref q_this), (1, .int x1)] := hl
  have hin0 : ∀ w ∈ u_ws RX0 TX0 6, w ∈ wsX0_kindOf := by decide +kernel
  have hk_9 := hts (.fieldLink RX0 9 "StenoRoom$Book" "kinds" "[I") (by decide +kernel)
  have hk_32 := hts (.fieldLink RX0 32 "StenoRoom$Book" "size" "I") (by decide +kernel)
  unfold jf_Book_kindOf at h
  refine lv_iload_n hx hb dX0_kindOf_0 rfl (lv_at hl 1 rfl) ?_
  refine lv_if_lt (tgt := 21) hx hb dX0_kindOf_1 (by decide) (fun hq1 => ?_) (fun hq1 => ?_)
  · replace h := jif_t hq1 h
    refine lv_iconst (v := (-1)) hx hb dX0_kindOf_21 (by decide) ?_
    exact j_iret (u := (-1)) (rv := (fun T => T)) (wv := (fun _ => (jw_Book_kindOf E q_this q_kinds q_strokeCounts q_strokes q_lengths q_letters c_size a_kinds))) h hQ hx hb hr rfl hlocks hS hP hD dX0_kindOf_22
  · replace h := jif_f hq1 h
    refine lv_iload_n hx hb dX0_kindOf_4 rfl (lv_at hl 1 rfl) ?_
    refine lv_aload_n hx hb dX0_kindOf_5 rfl (lv_at hl 0 rfl) ?_
    refine va_get (D := E.1) (ci := 0) (v := .int c_size) (C := RX0) (T := TX0) (N := 6) hx hb hts hin0 hown hK.1 hP 0 rfl rfl 5 (by decide) hk_32 (fun _ h9 => h9) rfl dX0_kindOf_6 ?_
    refine lv_icmp_ge (tgt := 21) hx hb dX0_kindOf_9 (by decide) (fun hq9 => ?_) (fun hq9 => ?_)
    · replace h := jif_t hq9 h
      refine lv_iconst (v := (-1)) hx hb dX0_kindOf_21 (by decide) ?_
      exact j_iret (u := (-1)) (rv := (fun T => T)) (wv := (fun _ => (jw_Book_kindOf E q_this q_kinds q_strokeCounts q_strokes q_lengths q_letters c_size a_kinds))) h hQ hx hb hr rfl hlocks hS hP hD dX0_kindOf_22
    · replace h := jif_f hq9 h
      refine lv_aload_n hx hb dX0_kindOf_12 rfl (lv_at hl 0 rfl) ?_
      refine va_get (D := E.1) (ci := 0) (v := .ref q_kinds) (C := RX0) (T := TX0) (N := 6) hx hb hts hin0 hown hK.1 hP 0 rfl rfl 0 (by decide) hk_9 (fun _ h9 => h9) rfl dX0_kindOf_13 ?_
      refine lv_iload_n hx hb dX0_kindOf_16 rfl (lv_at hl 1 rfl) ?_
      obtain ⟨g17, h⟩ := jga_e h
      refine va_iald hx hb hK.1 hP 1 1 rfl rfl g17 dX0_kindOf_17 ?_
      refine lv_goto (tgt := 22) hx hb dX0_kindOf_18 (by decide) ?_
      exact j_iret (u := (a_kinds x1.toNatClampNeg)) (rv := (fun T => T)) (wv := (fun _ => (jw_Book_kindOf E q_this q_kinds q_strokeCounts q_strokes q_lengths q_letters c_size a_kinds))) h hQ hx hb hr rfl hlocks hS hP hD dX0_kindOf_22
abbrev jw_Page_put (E : jE) (q_this q_book q_bytes : Nat) (n_bytes : Nat) (c_size : Int32) (c_shift : Int32) (c_link : Int32) (c_lastWordLength : Int32) (c_lastWordVowels : Int32) (a_bytes : (Nat → Int32)) : va_W := [(q_this, .inr (4, [.ref q_book, .ref q_bytes, .int c_size, .int c_shift, .int c_link, .int c_lastWordLength, .int c_lastWordVowels])), (q_bytes, .inl (E.2.1, n_bytes, .inl a_bytes))]
def jr_Page_put : Room := { frames := 0, cells := 0, slots := 0, locals := 0 }
set_option maxHeartbeats 4000000 in
set_option maxRecDepth 100000 in
theorem jc_Page_put (l : Launch) (E : jE) (q_this q_book q_bytes : Nat) (n_bytes : Nat) (c_size : Int32) (c_shift : Int32) (c_link : Int32) (c_lastWordLength : Int32) (c_lastWordVowels : Int32) (a_bytes : (Nat → Int32)) (x1 : Int32) (N : Nat) {T : Int32 × (Nat → Int32)} (h : jf_Page_put x1 n_bytes c_size a_bytes = some T) : jMv l yX4_put wsX4_put jr_Page_put E [.ref q_this, .int x1] (jw_Page_put E q_this q_book q_bytes n_bytes c_size c_shift c_link c_lastWordLength c_lastWordVowels a_bytes) (jw_Page_put E q_this q_book q_bytes n_bytes T.1 c_shift c_link c_lastWordLength c_lastWordVowels T.2) := by
  refine jMv.begin (cc := cX4_put) (maxL := 2) (ret := none) (by decide) rfl (Nat.le_of_ble_eq_true rfl) ?_
  intro p e s m args below meth c A ls Q hQ hx hb hr hml hown hlocks hts hK hA hP hD hS hl
  replace hown : s.vm.findClass RX4 = some m.cls := hown
  replace hl : lv_has ls 2 [(0, .ref q_this), (1, .int x1)] := hl
  have hin4 : ∀ w ∈ u_ws RX4 TX4 7, w ∈ wsX4_put := by decide +kernel
  have hk_21 := hts (.fieldLink RX4 21 "StenoRoom$Page" "bytes" "[B") (by decide +kernel)
  have hk_25 := hts (.fieldLink RX4 25 "StenoRoom$Page" "size" "I") (by decide +kernel)
  unfold jf_Page_put at h
  refine lv_aload_n hx hb dX4_put_0 rfl (lv_at hl 0 rfl) ?_
  refine va_get (D := E.1) (ci := 4) (v := .int c_size) (C := RX4) (T := TX4) (N := 7) hx hb hts hin4 hown hK.1 hP 0 rfl rfl 2 (by decide) hk_25 (fun _ h9 => h9) rfl dX4_put_1 ?_
  refine lv_aload_n hx hb dX4_put_4 rfl (lv_at hl 0 rfl) ?_
  refine va_get (D := E.1) (ci := 4) (v := .ref q_bytes) (C := RX4) (T := TX4) (N := 7) hx hb hts hin4 hown hK.1 hP 0 rfl rfl 1 (by decide) hk_21 (fun _ h9 => h9) rfl dX4_put_5 ?_
  refine va_alen hx hb hK.1 hP 1 0 rfl rfl (v := (nI n_bytes)) rfl dX4_put_8 ?_
  refine lv_icmp_ge (tgt := 33) hx hb dX4_put_9 (by decide) (fun hq9 => ?_) (fun hq9 => ?_)
  · replace h := jif_t hq9 h
    exact j_vret (u := (c_size, a_bytes)) (wv := (fun T => (jw_Page_put E q_this q_book q_bytes n_bytes T.1 c_shift c_link c_lastWordLength c_lastWordVowels T.2))) h hQ hx hb hr hlocks hS hP hD dX4_put_33
  · replace h := jif_f hq9 h
    refine lv_aload_n hx hb dX4_put_12 rfl (lv_at hl 0 rfl) ?_
    refine va_get (D := E.1) (ci := 4) (v := .ref q_bytes) (C := RX4) (T := TX4) (N := 7) hx hb hts hin4 hown hK.1 hP 0 rfl rfl 1 (by decide) hk_21 (fun _ h9 => h9) rfl dX4_put_13 ?_
    refine lv_aload_n hx hb dX4_put_16 rfl (lv_at hl 0 rfl) ?_
    refine va_get (D := E.1) (ci := 4) (v := .int c_size) (C := RX4) (T := TX4) (N := 7) hx hb hts hin4 hown hK.1 hP 0 rfl rfl 2 (by decide) hk_25 (fun _ h9 => h9) rfl dX4_put_17 ?_
    refine lv_iload_n hx hb dX4_put_20 rfl (lv_at hl 1 rfl) ?_
    refine lv_i2b (v := x1.toInt8.toInt32) hx hb dX4_put_21 rfl ?_
    obtain ⟨g22, h⟩ := jga_e h
    refine va_bast hx hb hK.1 hP hD hS 1 0 rfl rfl g22 dX4_put_22 (fun H locs hP hD hS => ?_)
    replace hP : va_P E.1 vwCl (jw_Page_put E q_this q_book q_bytes n_bytes c_size c_shift c_link c_lastWordLength c_lastWordVowels (upd a_bytes c_size.toNatClampNeg (vp_nar .byte x1.toInt8.toInt32))) H := hP
    replace hD : va_D A (jw_Page_put E q_this q_book q_bytes n_bytes c_size c_shift c_link c_lastWordLength c_lastWordVowels (upd a_bytes c_size.toNatClampNeg (vp_nar .byte x1.toInt8.toInt32))) := hD
    refine lv_aload_n hx hb dX4_put_23 rfl (lv_at hl 0 rfl) ?_
    refine lv_dup hx hb dX4_put_24 rfl ?_
    refine va_get (D := E.1) (ci := 4) (v := .int c_size) (C := RX4) (T := TX4) (N := 7) hx hb hts hin4 hown hK.1 hP 0 rfl rfl 2 (by decide) hk_25 (fun _ h9 => h9) rfl dX4_put_25 ?_
    refine lv_iconst (v := 1) hx hb dX4_put_28 (by decide) ?_
    refine lv_iadd hx hb dX4_put_29 ?_
    refine va_put (D := E.1) (ci := 4) (v := .int (c_size + 1)) (ty := .int) (C := RX4) (T := TX4) (N := 7) hx hb hts hin4 tyX4 tyX4_ok nmX4 hown hK.1 hP hD hS 0 rfl rfl 2 (by decide) hk_25 (fun _ h9 => h9) rfl (by decide +kernel) rfl rfl (Nat.le_of_ble_eq_true rfl) dX4_put_30 (fun H locs hP hD hS => ?_)
    replace hP : va_P E.1 vwCl (jw_Page_put E q_this q_book q_bytes n_bytes (c_size + 1) c_shift c_link c_lastWordLength c_lastWordVowels (upd a_bytes c_size.toNatClampNeg (vp_nar .byte x1.toInt8.toInt32))) H := hP
    replace hD : va_D A (jw_Page_put E q_this q_book q_bytes n_bytes (c_size + 1) c_shift c_link c_lastWordLength c_lastWordVowels (upd a_bytes c_size.toNatClampNeg (vp_nar .byte x1.toInt8.toInt32))) := hD
    exact j_vret (u := ((c_size + 1), (upd a_bytes c_size.toNatClampNeg (vp_nar .byte x1.toInt8.toInt32)))) (wv := (fun T => (jw_Page_put E q_this q_book q_bytes n_bytes T.1 c_shift c_link c_lastWordLength c_lastWordVowels T.2))) h hQ hx hb hr hlocks hS hP hD dX4_put_33
abbrev jw_Page_putBlank (E : jE) (q_this q_book q_bytes : Nat) (n_bytes : Nat) (c_size : Int32) (c_shift : Int32) (c_link : Int32) (c_lastWordLength : Int32) (c_lastWordVowels : Int32) (a_bytes : (Nat → Int32)) : va_W := [(q_this, .inr (4, [.ref q_book, .ref q_bytes, .int c_size, .int c_shift, .int c_link, .int c_lastWordLength, .int c_lastWordVowels])), (q_bytes, .inl (E.2.1, n_bytes, .inl a_bytes))]
def jr_Page_putBlank : Room := { frames := 1, cells := 0, slots := 0, locals := 21 }
set_option maxHeartbeats 4000000 in
set_option maxRecDepth 100000 in
theorem jc_Page_putBlank (l : Launch) (E : jE) (q_this q_book q_bytes : Nat) (n_bytes : Nat) (c_size : Int32) (c_shift : Int32) (c_link : Int32) (c_lastWordLength : Int32) (c_lastWordVowels : Int32) (a_bytes : (Nat → Int32)) (N : Nat) {T : Int32 × Int32 × (Nat → Int32)} (h : jf_Page_putBlank n_bytes c_size c_link a_bytes = some T) : jMv l yX4_putBlank wsX4_putBlank jr_Page_putBlank E [.ref q_this] (jw_Page_putBlank E q_this q_book q_bytes n_bytes c_size c_shift c_link c_lastWordLength c_lastWordVowels a_bytes) (jw_Page_putBlank E q_this q_book q_bytes n_bytes T.1 c_shift T.2.1 c_lastWordLength c_lastWordVowels T.2.2) := by
  refine jMv.begin (cc := cX4_putBlank) (maxL := 1) (ret := none) (by decide) rfl (Nat.le_of_ble_eq_true rfl) ?_
  intro p e s m args below meth c A ls Q hQ hx hb hr hml hown hlocks hts hK hA hP hD hS hl
  replace hown : s.vm.findClass RX4 = some m.cls := hown
  replace hl : lv_has ls 1 [(0, .ref q_this)] := hl
  have hin4 : ∀ w ∈ u_ws RX4 TX4 7, w ∈ wsX4_putBlank := by decide +kernel
  have hk_25 := hts (.fieldLink RX4 25 "StenoRoom$Page" "size" "I") (by decide +kernel)
  have hk_32 := hts (.fieldLink RX4 32 "StenoRoom$Page" "link" "I") (by decide +kernel)
  have kb20 : ∀ (c_size : Int32) (c_link : Int32) (a_bytes : (Nat → Int32)) (H : Heap) (locs : List Loc) (ls : Array Slot), jf_Page_putBlank_b20 c_size c_link a_bytes = some T → va_P E.1 vwCl (jw_Page_putBlank E q_this q_book q_bytes n_bytes c_size c_shift c_link c_lastWordLength c_lastWordVowels a_bytes) H → va_D A (jw_Page_putBlank E q_this q_book q_bytes n_bytes c_size c_shift c_link c_lastWordLength c_lastWordVowels a_bytes) → va_S A s.heap H locs → lv_has ls 1 [(0, .ref q_this)] → W p l e jr_Page_putBlank s m args below meth c H locs 0 0 Q (F0 m 20 ls []) := by
    intro  c_size c_link a_bytes H locs ls h hP hD hS hl
    unfold jf_Page_putBlank_b20 at h
    refine lv_aload_n hx hb dX4_putBlank_20 rfl (lv_at hl 0 rfl) ?_
    refine lv_iconst (v := 0) hx hb dX4_putBlank_21 (by decide) ?_
    refine va_put (D := E.1) (ci := 4) (v := .int 0) (ty := .int) (C := RX4) (T := TX4) (N := 7) hx hb hts hin4 tyX4 tyX4_ok nmX4 hown hK.1 hP hD hS 0 rfl rfl 4 (by decide) hk_32 (fun _ h9 => h9) rfl (by decide +kernel) rfl rfl (Nat.le_of_ble_eq_true rfl) dX4_putBlank_22 (fun H locs hP hD hS => ?_)
    replace hP : va_P E.1 vwCl (jw_Page_putBlank E q_this q_book q_bytes n_bytes c_size c_shift 0 c_lastWordLength c_lastWordVowels a_bytes) H := hP
    replace hD : va_D A (jw_Page_putBlank E q_this q_book q_bytes n_bytes c_size c_shift 0 c_lastWordLength c_lastWordVowels a_bytes) := hD
    exact j_vret (u := (c_size, 0, a_bytes)) (wv := (fun T => (jw_Page_putBlank E q_this q_book q_bytes n_bytes T.1 c_shift T.2.1 c_lastWordLength c_lastWordVowels T.2.2))) h hQ hx hb hr hlocks hS hP hD dX4_putBlank_25
  unfold jf_Page_putBlank at h
  refine lv_aload_n hx hb dX4_putBlank_0 rfl (lv_at hl 0 rfl) ?_
  refine va_get (D := E.1) (ci := 4) (v := .int c_size) (C := RX4) (T := TX4) (N := 7) hx hb hts hin4 hown hK.1 hP 0 rfl rfl 2 (by decide) hk_25 (fun _ h9 => h9) rfl dX4_putBlank_1 ?_
  refine lv_if_le (tgt := 20) hx hb dX4_putBlank_4 (by decide) (fun hq4 => ?_) (fun hq4 => ?_)
  · replace h := jif_t hq4 h
    exact kb20   c_size c_link a_bytes _ _ _ h hP hD hS (lv_sub hl [0] rfl)
  · replace h := jif_f hq4 h
    refine lv_aload_n hx hb dX4_putBlank_7 rfl (lv_at hl 0 rfl) ?_
    refine va_get (D := E.1) (ci := 4) (v := .int c_link) (C := RX4) (T := TX4) (N := 7) hx hb hts hin4 hown hK.1 hP 0 rfl rfl 4 (by decide) hk_32 (fun _ h9 => h9) rfl dX4_putBlank_8 ?_
    refine lv_if_ne (tgt := 20) hx hb dX4_putBlank_11 (by decide) (fun hq11 => ?_) (fun hq11 => ?_)
    · replace h := jif_f hq11 h
      exact kb20   c_size c_link a_bytes _ _ _ h hP hD hS (lv_sub hl [0] rfl)
    · replace h := jif_t hq11 h
      refine lv_aload_n hx hb dX4_putBlank_14 rfl (lv_at hl 0 rfl) ?_
      refine lv_bipush (v := 32) hx hb dX4_putBlank_15 (by decide) ?_
      obtain ⟨⟨c_size_17, a_bytes_17⟩, hf17, h⟩ := jbd h
      refine j_callVv (own := RX4) (As := [.int 32]) (rest := []) hx hb hml hown hts hK hA hP hD hS (jc_Page_put l E q_this q_book q_bytes n_bytes c_size c_shift c_link c_lastWordLength c_lastWordVowels a_bytes 32 N hf17) gX4_putBlank_X4_put rfl ⟨rfl, rfl⟩ 1 (by decide +kernel) rfl rfl 0 4 rfl rfl [0, 1] [] [0, 1] rfl rfl rfl rfl rfl rfl rfl hl.1 rfl rfl dX4_putBlank_17 (fun H locs hP hD hS => ?_)
      replace hP : va_P E.1 vwCl (jw_Page_putBlank E q_this q_book q_bytes n_bytes c_size_17 c_shift c_link c_lastWordLength c_lastWordVowels a_bytes_17) H := hP
      replace hD : va_D A (jw_Page_putBlank E q_this q_book q_bytes n_bytes c_size_17 c_shift c_link c_lastWordLength c_lastWordVowels a_bytes_17) := hD
      exact kb20   c_size_17 c_link a_bytes_17 _ _ _ h hP hD hS (lv_sub hl [0] rfl)
abbrev jw_Book_lengthOf (E : jE) (q_this q_kinds q_strokeCounts q_strokes q_lengths q_letters : Nat) (c_size : Int32) (a_lengths : (Nat → Int32)) : va_W := [(q_this, .inr (0, [.ref q_kinds, .ref q_strokeCounts, .ref q_strokes, .ref q_lengths, .ref q_letters, .int c_size])), (q_lengths, .inl (E.2.2.1, 60, .inl a_lengths))]
def jr_Book_lengthOf : Room := { frames := 0, cells := 0, slots := 0, locals := 0 }
set_option maxHeartbeats 4000000 in
set_option maxRecDepth 100000 in
theorem jc_Book_lengthOf (l : Launch) (E : jE) (q_this q_kinds q_strokeCounts q_strokes q_lengths q_letters : Nat) (c_size : Int32) (a_lengths : (Nat → Int32)) (x1 : Int32) (N : Nat) {T : Int32} (h : jf_Book_lengthOf x1 c_size a_lengths = some T) : jMi l yX0_lengthOf wsX0_lengthOf jr_Book_lengthOf E [.ref q_this, .int x1] (jw_Book_lengthOf E q_this q_kinds q_strokeCounts q_strokes q_lengths q_letters c_size a_lengths) (T) (jw_Book_lengthOf E q_this q_kinds q_strokeCounts q_strokes q_lengths q_letters c_size a_lengths) := by
  refine jMi.begin (cc := cX0_lengthOf) (maxL := 2) (ret := (some .int)) (by decide) rfl (Nat.le_of_ble_eq_true rfl) ?_
  intro p e s m args below meth c A ls Q hQ hx hb hr hml hown hlocks hts hK hA hP hD hS hl
  replace hown : s.vm.findClass RX0 = some m.cls := hown
  replace hl : lv_has ls 2 [(0, .ref q_this), (1, .int x1)] := hl
  have hin0 : ∀ w ∈ u_ws RX0 TX0 6, w ∈ wsX0_lengthOf := by decide +kernel
  have hk_21 := hts (.fieldLink RX0 21 "StenoRoom$Book" "lengths" "[I") (by decide +kernel)
  have hk_32 := hts (.fieldLink RX0 32 "StenoRoom$Book" "size" "I") (by decide +kernel)
  unfold jf_Book_lengthOf at h
  refine lv_iload_n hx hb dX0_lengthOf_0 rfl (lv_at hl 1 rfl) ?_
  refine lv_if_lt (tgt := 21) hx hb dX0_lengthOf_1 (by decide) (fun hq1 => ?_) (fun hq1 => ?_)
  · replace h := jif_t hq1 h
    refine lv_iconst (v := 0) hx hb dX0_lengthOf_21 (by decide) ?_
    exact j_iret (u := 0) (rv := (fun T => T)) (wv := (fun _ => (jw_Book_lengthOf E q_this q_kinds q_strokeCounts q_strokes q_lengths q_letters c_size a_lengths))) h hQ hx hb hr rfl hlocks hS hP hD dX0_lengthOf_22
  · replace h := jif_f hq1 h
    refine lv_iload_n hx hb dX0_lengthOf_4 rfl (lv_at hl 1 rfl) ?_
    refine lv_aload_n hx hb dX0_lengthOf_5 rfl (lv_at hl 0 rfl) ?_
    refine va_get (D := E.1) (ci := 0) (v := .int c_size) (C := RX0) (T := TX0) (N := 6) hx hb hts hin0 hown hK.1 hP 0 rfl rfl 5 (by decide) hk_32 (fun _ h9 => h9) rfl dX0_lengthOf_6 ?_
    refine lv_icmp_ge (tgt := 21) hx hb dX0_lengthOf_9 (by decide) (fun hq9 => ?_) (fun hq9 => ?_)
    · replace h := jif_t hq9 h
      refine lv_iconst (v := 0) hx hb dX0_lengthOf_21 (by decide) ?_
      exact j_iret (u := 0) (rv := (fun T => T)) (wv := (fun _ => (jw_Book_lengthOf E q_this q_kinds q_strokeCounts q_strokes q_lengths q_letters c_size a_lengths))) h hQ hx hb hr rfl hlocks hS hP hD dX0_lengthOf_22
    · replace h := jif_f hq9 h
      refine lv_aload_n hx hb dX0_lengthOf_12 rfl (lv_at hl 0 rfl) ?_
      refine va_get (D := E.1) (ci := 0) (v := .ref q_lengths) (C := RX0) (T := TX0) (N := 6) hx hb hts hin0 hown hK.1 hP 0 rfl rfl 3 (by decide) hk_21 (fun _ h9 => h9) rfl dX0_lengthOf_13 ?_
      refine lv_iload_n hx hb dX0_lengthOf_16 rfl (lv_at hl 1 rfl) ?_
      obtain ⟨g17, h⟩ := jga_e h
      refine va_iald hx hb hK.1 hP 1 1 rfl rfl g17 dX0_lengthOf_17 ?_
      refine lv_goto (tgt := 22) hx hb dX0_lengthOf_18 (by decide) ?_
      exact j_iret (u := (a_lengths x1.toNatClampNeg)) (rv := (fun T => T)) (wv := (fun _ => (jw_Book_lengthOf E q_this q_kinds q_strokeCounts q_strokes q_lengths q_letters c_size a_lengths))) h hQ hx hb hr rfl hlocks hS hP hD dX0_lengthOf_22
abbrev jw_Book_letterAt (E : jE) (q_this q_kinds q_strokeCounts q_strokes q_lengths q_letters : Nat) (c_size : Int32) (a_lengths : (Nat → Int32)) (a_letters : (Nat → Int32)) : va_W := [(q_this, .inr (0, [.ref q_kinds, .ref q_strokeCounts, .ref q_strokes, .ref q_lengths, .ref q_letters, .int c_size])), (q_lengths, .inl (E.2.2.1, 60, .inl a_lengths)), (q_letters, .inl (E.2.1, 960, .inl a_letters))]
def jr_Book_letterAt : Room := { frames := 0, cells := 0, slots := 0, locals := 0 }
set_option maxHeartbeats 4000000 in
set_option maxRecDepth 100000 in
theorem jc_Book_letterAt (l : Launch) (E : jE) (q_this q_kinds q_strokeCounts q_strokes q_lengths q_letters : Nat) (c_size : Int32) (a_lengths : (Nat → Int32)) (a_letters : (Nat → Int32)) (x1 : Int32) (x2 : Int32) (N : Nat) {T : Int32} (h : jf_Book_letterAt x1 x2 c_size a_lengths a_letters = some T) : jMi l yX0_letterAt wsX0_letterAt jr_Book_letterAt E [.ref q_this, .int x1, .int x2] (jw_Book_letterAt E q_this q_kinds q_strokeCounts q_strokes q_lengths q_letters c_size a_lengths a_letters) (T) (jw_Book_letterAt E q_this q_kinds q_strokeCounts q_strokes q_lengths q_letters c_size a_lengths a_letters) := by
  refine jMi.begin (cc := cX0_letterAt) (maxL := 4) (ret := (some .int)) (by decide) rfl (Nat.le_of_ble_eq_true rfl) ?_
  intro p e s m args below meth c A ls Q hQ hx hb hr hml hown hlocks hts hK hA hP hD hS hl
  replace hown : s.vm.findClass RX0 = some m.cls := hown
  replace hl : lv_has ls 4 [(0, .ref q_this), (1, .int x1), (2, .int x2)] := hl
  have hin0 : ∀ w ∈ u_ws RX0 TX0 6, w ∈ wsX0_letterAt := by decide +kernel
  have hk_21 := hts (.fieldLink RX0 21 "StenoRoom$Book" "lengths" "[I") (by decide +kernel)
  have hk_24 := hts (.fieldLink RX0 24 "StenoRoom$Book" "letters" "[B") (by decide +kernel)
  have hk_32 := hts (.fieldLink RX0 32 "StenoRoom$Book" "size" "I") (by decide +kernel)
  have kb31 : ∀ (z0 : Int32) (H : Heap) (locs : List Loc) (ls : Array Slot), jf_Book_letterAt_b31 x1 x2 a_letters z0 = some T → va_P E.1 vwCl (jw_Book_letterAt E q_this q_kinds q_strokeCounts q_strokes q_lengths q_letters c_size a_lengths a_letters) H → va_D A (jw_Book_letterAt E q_this q_kinds q_strokeCounts q_strokes q_lengths q_letters c_size a_lengths a_letters) → va_S A s.heap H locs → lv_has ls 4 [(0, .ref q_this), (1, .int x1), (2, .int x2)] → W p l e jr_Book_letterAt s m args below meth c H locs 0 0 Q (F0 m 31 ls [.int z0]) := by
    intro  z0 H locs ls h hP hD hS hl
    unfold jf_Book_letterAt_b31 at h
    refine lv_istore_n (lv' := [(3, .int z0), (0, .ref q_this), (1, .int x1), (2, .int x2)]) hx hb dX0_letterAt_31 rfl hl (by decide) rfl (fun ls hl => ?_)
    refine lv_iload_n hx hb dX0_letterAt_32 rfl (lv_at hl 0 rfl) ?_
    refine lv_if_eq (tgt := 50) hx hb dX0_letterAt_33 (by decide) (fun hq33 => ?_) (fun hq33 => ?_)
    · replace h := jif_t hq33 h
      refine lv_iconst (v := (-1)) hx hb dX0_letterAt_50 (by decide) ?_
      exact j_iret (u := (-1)) (rv := (fun T => T)) (wv := (fun _ => (jw_Book_letterAt E q_this q_kinds q_strokeCounts q_strokes q_lengths q_letters c_size a_lengths a_letters))) h hQ hx hb hr rfl hlocks hS hP hD dX0_letterAt_51
    · replace h := jif_f hq33 h
      refine lv_aload_n hx hb dX0_letterAt_36 rfl (lv_at hl 1 rfl) ?_
      refine va_get (D := E.1) (ci := 0) (v := .ref q_letters) (C := RX0) (T := TX0) (N := 6) hx hb hts hin0 hown hK.1 hP 0 rfl rfl 4 (by decide) hk_24 (fun _ h9 => h9) rfl dX0_letterAt_37 ?_
      refine lv_iload_n hx hb dX0_letterAt_40 rfl (lv_at hl 2 rfl) ?_
      refine lv_bipush (v := 16) hx hb dX0_letterAt_41 (by decide) ?_
      refine lv_imul hx hb dX0_letterAt_43 ?_
      refine lv_iload_n hx hb dX0_letterAt_44 rfl (lv_at hl 3 rfl) ?_
      refine lv_iadd hx hb dX0_letterAt_45 ?_
      obtain ⟨g46, h⟩ := jga_e h
      refine va_bald hx hb hK.1 hP 2 0 rfl rfl g46 dX0_letterAt_46 ?_
      refine lv_goto (tgt := 51) hx hb dX0_letterAt_47 (by decide) ?_
      exact j_iret (u := (a_letters ((x1 * 16) + x2).toNatClampNeg)) (rv := (fun T => T)) (wv := (fun _ => (jw_Book_letterAt E q_this q_kinds q_strokeCounts q_strokes q_lengths q_letters c_size a_lengths a_letters))) h hQ hx hb hr rfl hlocks hS hP hD dX0_letterAt_51
  have kb30 : ∀ (H : Heap) (locs : List Loc) (ls : Array Slot), jf_Book_letterAt_b30 x1 x2 a_letters = some T → va_P E.1 vwCl (jw_Book_letterAt E q_this q_kinds q_strokeCounts q_strokes q_lengths q_letters c_size a_lengths a_letters) H → va_D A (jw_Book_letterAt E q_this q_kinds q_strokeCounts q_strokes q_lengths q_letters c_size a_lengths a_letters) → va_S A s.heap H locs → lv_has ls 4 [(0, .ref q_this), (1, .int x1), (2, .int x2)] → W p l e jr_Book_letterAt s m args below meth c H locs 0 0 Q (F0 m 30 ls []) := by
    intro   H locs ls h hP hD hS hl
    unfold jf_Book_letterAt_b30 at h
    refine lv_iconst (v := 0) hx hb dX0_letterAt_30 (by decide) ?_
    exact kb31   0 _ _ _ h hP hD hS (lv_sub hl [0, 1, 2] rfl)
  unfold jf_Book_letterAt at h
  refine lv_iload_n hx hb dX0_letterAt_0 rfl (lv_at hl 1 rfl) ?_
  refine lv_if_lt (tgt := 30) hx hb dX0_letterAt_1 (by decide) (fun hq1 => ?_) (fun hq1 => ?_)
  · replace h := jif_t hq1 h
    exact kb30    _ _ _ h hP hD hS (lv_sub hl [0, 1, 2] rfl)
  · replace h := jif_f hq1 h
    refine lv_iload_n hx hb dX0_letterAt_4 rfl (lv_at hl 1 rfl) ?_
    refine lv_aload_n hx hb dX0_letterAt_5 rfl (lv_at hl 0 rfl) ?_
    refine va_get (D := E.1) (ci := 0) (v := .int c_size) (C := RX0) (T := TX0) (N := 6) hx hb hts hin0 hown hK.1 hP 0 rfl rfl 5 (by decide) hk_32 (fun _ h9 => h9) rfl dX0_letterAt_6 ?_
    refine lv_icmp_ge (tgt := 30) hx hb dX0_letterAt_9 (by decide) (fun hq9 => ?_) (fun hq9 => ?_)
    · replace h := jif_t hq9 h
      exact kb30    _ _ _ h hP hD hS (lv_sub hl [0, 1, 2] rfl)
    · replace h := jif_f hq9 h
      refine lv_iload_n hx hb dX0_letterAt_12 rfl (lv_at hl 2 rfl) ?_
      refine lv_if_lt (tgt := 30) hx hb dX0_letterAt_13 (by decide) (fun hq13 => ?_) (fun hq13 => ?_)
      · replace h := jif_t hq13 h
        exact kb30    _ _ _ h hP hD hS (lv_sub hl [0, 1, 2] rfl)
      · replace h := jif_f hq13 h
        refine lv_iload_n hx hb dX0_letterAt_16 rfl (lv_at hl 2 rfl) ?_
        refine lv_aload_n hx hb dX0_letterAt_17 rfl (lv_at hl 0 rfl) ?_
        refine va_get (D := E.1) (ci := 0) (v := .ref q_lengths) (C := RX0) (T := TX0) (N := 6) hx hb hts hin0 hown hK.1 hP 0 rfl rfl 3 (by decide) hk_21 (fun _ h9 => h9) rfl dX0_letterAt_18 ?_
        refine lv_iload_n hx hb dX0_letterAt_21 rfl (lv_at hl 1 rfl) ?_
        obtain ⟨g22, h⟩ := jga_e h
        refine va_iald hx hb hK.1 hP 1 1 rfl rfl g22 dX0_letterAt_22 ?_
        refine lv_icmp_ge (tgt := 30) hx hb dX0_letterAt_23 (by decide) (fun hq23 => ?_) (fun hq23 => ?_)
        · replace h := jif_t hq23 h
          exact kb30    _ _ _ h hP hD hS (lv_sub hl [0, 1, 2] rfl)
        · replace h := jif_f hq23 h
          refine lv_iconst (v := 1) hx hb dX0_letterAt_26 (by decide) ?_
          refine lv_goto (tgt := 31) hx hb dX0_letterAt_27 (by decide) ?_
          exact kb31   1 _ _ _ h hP hD hS (lv_sub hl [0, 1, 2] rfl)
