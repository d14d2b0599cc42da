abbrev jw_Tape_hasRoom (E : jE) (q_this q_bytes : Nat) (c_size : Int32) : va_W := [(q_this, .inr (8, [.ref q_bytes, .int c_size]))]
def jr_Tape_hasRoom : Room := { frames := 0, cells := 0, slots := 0, locals := 0 }
set_option maxHeartbeats 4000000 in
set_option maxRecDepth 100000 in
theorem jc_Tape_hasRoom (l : Launch) (E : jE) (q_this q_bytes : Nat) (c_size : Int32) (x1 : Int32) (N : Nat) {T : Int32} (h : jf_Tape_hasRoom x1 c_size = some T) : jMi l yX8_hasRoom wsX8_hasRoom jr_Tape_hasRoom E [.ref q_this, .int x1] (jw_Tape_hasRoom E q_this q_bytes c_size) (T) (jw_Tape_hasRoom E q_this q_bytes c_size) := by
  refine jMi.begin (cc := cX8_hasRoom) (maxL := 2) (ret := (some .boolean)) (by decide) rfl (Nat.le_of_ble_eq_true rfl) ?_
  intro p e s m args below meth c A ls Q hQ hx hb hr hml hown hlocks hts hK hA hP hD hS hl
  replace hown : s.vm.findClass RX8 = some m.cls := hown
  replace hl : lv_has ls 2 [(0, .ref q_this), (1, .int x1)] := hl
  have hin8 : ∀ w ∈ u_ws RX8 TX8 2, w ∈ wsX8_hasRoom := by decide +kernel
  have hk_15 := hts (.fieldLink RX8 15 "StenoRoom$Tape" "size" "I") (by decide +kernel)
  unfold jf_Tape_hasRoom at h
  refine lv_iload_n hx hb dX8_hasRoom_0 rfl (lv_at hl 1 rfl) ?_
  refine lv_bipush (v := 80) hx hb dX8_hasRoom_1 (by decide) ?_
  refine lv_aload_n hx hb dX8_hasRoom_3 rfl (lv_at hl 0 rfl) ?_
  refine va_get (D := E.1) (ci := 8) (v := .int c_size) (C := RX8) (T := TX8) (N := 2) hx hb hts hin8 hown hK.1 hP 0 rfl rfl 1 (by decide) hk_15 (fun _ h9 => h9) rfl dX8_hasRoom_4 ?_
  refine lv_isub hx hb dX8_hasRoom_7 ?_
  refine lv_icmp_gt (tgt := 15) hx hb dX8_hasRoom_8 (by decide) (fun hq8 => ?_) (fun hq8 => ?_)
  · replace h := jif_t hq8 h
    refine lv_iconst (v := 0) hx hb dX8_hasRoom_15 (by decide) ?_
    exact j_iret (u := 0) (rv := (fun T => T)) (wv := (fun _ => (jw_Tape_hasRoom E q_this q_bytes c_size))) h hQ hx hb hr jb_0 hlocks hS hP hD dX8_hasRoom_16
  · replace h := jif_f hq8 h
    refine lv_iconst (v := 1) hx hb dX8_hasRoom_11 (by decide) ?_
    refine lv_goto (tgt := 16) hx hb dX8_hasRoom_12 (by decide) ?_
    exact j_iret (u := 1) (rv := (fun T => T)) (wv := (fun _ => (jw_Tape_hasRoom E q_this q_bytes c_size))) h hQ hx hb hr jb_1 hlocks hS hP hD dX8_hasRoom_16
abbrev jw_Tape_add (E : jE) (q_this q_bytes : Nat) (c_size : Int32) (a_bytes : (Nat → Int32)) : va_W := [(q_this, .inr (8, [.ref q_bytes, .int c_size])), (q_bytes, .inl (E.2.1, 80, .inl a_bytes))]
def jr_Tape_add : Room := { frames := 0, cells := 0, slots := 0, locals := 0 }
set_option maxHeartbeats 4000000 in
set_option maxRecDepth 100000 in
theorem jc_Tape_add (l : Launch) (E : jE) (q_this q_bytes : Nat) (c_size : Int32) (a_bytes : (Nat → Int32)) (x1 : Int32) (N : Nat) {T : Int32 × (Nat → Int32)} (h : jf_Tape_add N x1 c_size a_bytes = some T) : jMv l yX8_add wsX8_add jr_Tape_add E [.ref q_this, .int x1] (jw_Tape_add E q_this q_bytes c_size a_bytes) (jw_Tape_add E q_this q_bytes T.1 T.2) := by
  refine jMv.begin (cc := cX8_add) (maxL := 3) (ret := none) (by decide) rfl (Nat.le_of_ble_eq_true rfl) ?_
  intro p e s m args below meth c A ls Q hQ hx hb hr hml hown hlocks hts hK hA hP hD hS hl
  replace hown : s.vm.findClass RX8 = some m.cls := hown
  replace hl : lv_has ls 3 [(0, .ref q_this), (1, .int x1)] := hl
  have hin8 : ∀ w ∈ u_ws RX8 TX8 2, w ∈ wsX8_add := by decide +kernel
  have hk_9 := hts (.fieldLink RX8 9 "StenoRoom$Tape" "bytes" "[B") (by decide +kernel)
  have hk_15 := hts (.fieldLink RX8 15 "StenoRoom$Tape" "size" "I") (by decide +kernel)
  have kb39 : ∀ (k3 : Int32 → Int32 → (Nat → Int32) → Option (Int32 × (Nat → Int32))) (hk3 : ∀ (x2 : Int32) (c_size : Int32) (a_bytes : (Nat → Int32)) (H : Heap) (locs : List Loc) (ls : Array Slot), k3 x2 c_size a_bytes = some T → va_P E.1 vwCl (jw_Tape_add E q_this q_bytes c_size a_bytes) H → va_D A (jw_Tape_add E q_this q_bytes c_size a_bytes) → va_S A s.heap H locs → lv_has ls 3 [(0, .ref q_this), (1, .int x1), (2, .int x2)] → W p l e jr_Tape_add s m args below meth c H locs 0 0 Q (F0 m 3 ls [])) (x2 : Int32) (c_size : Int32) (a_bytes : (Nat → Int32)) (H : Heap) (locs : List Loc) (ls : Array Slot), jf_Tape_add_b39 k3 x2 c_size a_bytes = some T → va_P E.1 vwCl (jw_Tape_add E q_this q_bytes c_size a_bytes) H → va_D A (jw_Tape_add E q_this q_bytes c_size a_bytes) → va_S A s.heap H locs → lv_has ls 3 [(0, .ref q_this), (1, .int x1), (2, .int x2)] → W p l e jr_Tape_add s m args below meth c H locs 0 0 Q (F0 m 39 ls []) := by
    intro k3 hk3 x2 c_size a_bytes H locs ls h hP hD hS hl
    unfold jf_Tape_add_b39 at h
    refine lv_iinc (v := (x2 + (-8))) (lv' := [(2, .int (x2 + (-8))), (0, .ref q_this), (1, .int x1)]) hx hb dX8_add_39 hl (k := 2) rfl rfl (by decide) rfl (fun ls hl => ?_)
    refine lv_goto (tgt := 3) hx hb dX8_add_42 (by decide) ?_
    exact hk3 (x2 + (-8)) c_size a_bytes _ _ _ h hP hD hS (lv_sub hl [1, 2, 0] rfl)
  have kb3 : ∀ (n : Nat) (x2 : Int32) (c_size : Int32) (a_bytes : (Nat → Int32)) (H : Heap) (locs : List Loc) (ls : Array Slot), jf_Tape_add_b3 x1 n x2 c_size a_bytes = some T → va_P E.1 vwCl (jw_Tape_add E q_this q_bytes c_size a_bytes) H → va_D A (jw_Tape_add E q_this q_bytes c_size a_bytes) → va_S A s.heap H locs → lv_has ls 3 [(0, .ref q_this), (1, .int x1), (2, .int x2)] → W p l e jr_Tape_add s m args below meth c H locs 0 0 Q (F0 m 3 ls []) := by
    intro n
    induction n with
    | zero => intro x2 c_size a_bytes H locs ls h; exact j_none (α := Int32 × (Nat → Int32)) h
    | succ n ih =>
      intro x2 c_size a_bytes H locs ls h hP hD hS hl
      rw [jf_Tape_add_b3] at h
      refine lv_iload_n hx hb dX8_add_3 rfl (lv_at hl 2 rfl) ?_
      refine lv_if_lt (tgt := 45) hx hb dX8_add_4 (by decide) (fun hq4 => ?_) (fun hq4 => ?_)
      · replace h := jif_t hq4 h
        exact j_vret (u := (c_size, a_bytes)) (wv := (fun T => (jw_Tape_add E q_this q_bytes T.1 T.2))) h hQ hx hb hr hlocks hS hP hD dX8_add_45
      · replace h := jif_f hq4 h
        refine lv_aload_n hx hb dX8_add_7 rfl (lv_at hl 0 rfl) ?_
        refine va_get (D := E.1) (ci := 8) (v := .int c_size) (C := RX8) (T := TX8) (N := 2) hx hb hts hin8 hown hK.1 hP 0 rfl rfl 1 (by decide) hk_15 (fun _ h9 => h9) rfl dX8_add_8 ?_
        refine lv_bipush (v := 80) hx hb dX8_add_11 (by decide) ?_
        refine lv_icmp_ge (tgt := 39) hx hb dX8_add_13 (by decide) (fun hq13 => ?_) (fun hq13 => ?_)
        · replace h := jif_t hq13 h
          exact kb39 (jf_Tape_add_b3 x1 n) ih  x2 c_size a_bytes _ _ _ h hP hD hS (lv_sub hl [0, 1, 2] rfl)
        · replace h := jif_f hq13 h
          refine lv_aload_n hx hb dX8_add_16 rfl (lv_at hl 0 rfl) ?_
          refine va_get (D := E.1) (ci := 8) (v := .ref q_bytes) (C := RX8) (T := TX8) (N := 2) hx hb hts hin8 hown hK.1 hP 0 rfl rfl 0 (by decide) hk_9 (fun _ h9 => h9) rfl dX8_add_17 ?_
          refine lv_aload_n hx hb dX8_add_20 rfl (lv_at hl 0 rfl) ?_
          refine va_get (D := E.1) (ci := 8) (v := .int c_size) (C := RX8) (T := TX8) (N := 2) hx hb hts hin8 hown hK.1 hP 0 rfl rfl 1 (by decide) hk_15 (fun _ h9 => h9) rfl dX8_add_21 ?_
          refine lv_iload_n hx hb dX8_add_24 rfl (lv_at hl 1 rfl) ?_
          refine lv_iload_n hx hb dX8_add_25 rfl (lv_at hl 2 rfl) ?_
          refine lv_ishr hx hb dX8_add_26 ?_
          refine lv_i2b (v := (x1 >>> (x2 &&& 31)).toInt8.toInt32) hx hb dX8_add_27 rfl ?_
          obtain ⟨g28, h⟩ := jga_e h
          refine va_bast hx hb hK.1 hP hD hS 1 0 rfl rfl g28 dX8_add_28 (fun H locs hP hD hS => ?_)
          replace hP : va_P E.1 vwCl (jw_Tape_add E q_this q_bytes c_size (upd a_bytes c_size.toNatClampNeg (vp_nar .byte ((x1 >>> (x2 &&& 31)).toInt8.toInt32)))) H := hP
          replace hD : va_D A (jw_Tape_add E q_this q_bytes c_size (upd a_bytes c_size.toNatClampNeg (vp_nar .byte ((x1 >>> (x2 &&& 31)).toInt8.toInt32)))) := hD
          refine lv_aload_n hx hb dX8_add_29 rfl (lv_at hl 0 rfl) ?_
          refine lv_dup hx hb dX8_add_30 rfl ?_
          refine va_get (D := E.1) (ci := 8) (v := .int c_size) (C := RX8) (T := TX8) (N := 2) hx hb hts hin8 hown hK.1 hP 0 rfl rfl 1 (by decide) hk_15 (fun _ h9 => h9) rfl dX8_add_31 ?_
          refine lv_iconst (v := 1) hx hb dX8_add_34 (by decide) ?_
          refine lv_iadd hx hb dX8_add_35 ?_
          refine va_put (D := E.1) (ci := 8) (v := .int (c_size + 1)) (ty := .int) (C := RX8) (T := TX8) (N := 2) hx hb hts hin8 tyX8 tyX8_ok nmX8 hown hK.1 hP hD hS 0 rfl rfl 1 (by decide) hk_15 (fun _ h9 => h9) rfl (by decide +kernel) rfl rfl (Nat.le_of_ble_eq_true rfl) dX8_add_36 (fun H locs hP hD hS => ?_)
          replace hP : va_P E.1 vwCl (jw_Tape_add E q_this q_bytes (c_size + 1) (upd a_bytes c_size.toNatClampNeg (vp_nar .byte ((x1 >>> (x2 &&& 31)).toInt8.toInt32)))) H := hP
          replace hD : va_D A (jw_Tape_add E q_this q_bytes (c_size + 1) (upd a_bytes c_size.toNatClampNeg (vp_nar .byte ((x1 >>> (x2 &&& 31)).toInt8.toInt32)))) := hD
          exact kb39 (jf_Tape_add_b3 x1 n) ih  x2 (c_size + 1) (upd a_bytes c_size.toNatClampNeg (vp_nar .byte ((x1 >>> (x2 &&& 31)).toInt8.toInt32))) _ _ _ h hP hD hS (lv_sub hl [0, 1, 2] rfl)
  unfold jf_Tape_add at h
  refine lv_bipush (v := 24) hx hb dX8_add_0 (by decide) ?_
  refine lv_istore_n (lv' := [(2, .int 24), (0, .ref q_this), (1, .int x1)]) hx hb dX8_add_2 rfl hl (by decide) rfl (fun ls hl => ?_)
  exact kb3  N 24 c_size a_bytes _ _ _ h hP hD hS (lv_sub hl [1, 2, 0] rfl)
abbrev jw_Tape_size (E : jE) (q_this q_bytes : Nat) (c_size : Int32) : va_W := [(q_this, .inr (8, [.ref q_bytes, .int c_size]))]
def jr_Tape_size : Room := { frames := 0, cells := 0, slots := 0, locals := 0 }
set_option maxHeartbeats 4000000 in
set_option maxRecDepth 100000 in
theorem jc_Tape_size (l : Launch) (E : jE) (q_this q_bytes : Nat) (c_size : Int32) (N : Nat) {T : Int32} (h : jf_Tape_size c_size = some T) : jMi l yX8_size wsX8_size jr_Tape_size E [.ref q_this] (jw_Tape_size E q_this q_bytes c_size) (T) (jw_Tape_size E q_this q_bytes c_size) := by
  refine jMi.begin (cc := cX8_size) (maxL := 1) (ret := (some .int)) (by decide) rfl (Nat.le_of_ble_eq_true rfl) ?_
  intro p e s m args below meth c A ls Q hQ hx hb hr hml hown hlocks hts hK hA hP hD hS hl
  replace hown : s.vm.findClass RX8 = some m.cls := hown
  replace hl : lv_has ls 1 [(0, .ref q_this)] := hl
  have hin8 : ∀ w ∈ u_ws RX8 TX8 2, w ∈ wsX8_size := by decide +kernel
  have hk_15 := hts (.fieldLink RX8 15 "StenoRoom$Tape" "size" "I") (by decide +kernel)
  unfold jf_Tape_size at h
  refine lv_aload_n hx hb dX8_size_0 rfl (lv_at hl 0 rfl) ?_
  refine va_get (D := E.1) (ci := 8) (v := .int c_size) (C := RX8) (T := TX8) (N := 2) hx hb hts hin8 hown hK.1 hP 0 rfl rfl 1 (by decide) hk_15 (fun _ h9 => h9) rfl dX8_size_1 ?_
  exact j_iret (u := c_size) (rv := (fun T => T)) (wv := (fun _ => (jw_Tape_size E q_this q_bytes c_size))) h hQ hx hb hr rfl hlocks hS hP hD dX8_size_4
abbrev jw_Room_feed (E : jE) (q_this q_tape q_entries q_record q_page q_transcript q_planner q_runs q_chord q_outline q_tape_bytes : Nat) (c_tape_size : Int32) (a_tape_bytes : (Nat → Int32)) : va_W := [(q_this, .inr (10, [.ref q_tape, .ref q_entries, .ref q_record, .ref q_page, .ref q_transcript, .ref q_planner, .ref q_runs, .ref q_chord, .ref q_outline])), (q_tape, .inr (8, [.ref q_tape_bytes, .int c_tape_size])), (q_tape_bytes, .inl (E.2.1, 80, .inl a_tape_bytes))]
def jr_Room_feed : Room := { frames := 1, cells := 0, slots := 0, locals := 22 }
set_option maxHeartbeats 4000000 in
set_option maxRecDepth 100000 in
theorem jc_Room_feed (l : Launch) (E : jE) (q_this q_tape q_entries q_record q_page q_transcript q_planner q_runs q_chord q_outline q_tape_bytes : Nat) (c_tape_size : Int32) (a_tape_bytes : (Nat → Int32)) (x1 : Int32) (x2 : Int32) (x3 : Int32) (x4 : Int32) (x5 : Int32) (N : Nat) {T : Int32 × Int32 × (Nat → Int32)} (h : jf_Room_feed N x1 x2 x3 x4 x5 c_tape_size a_tape_bytes = some T) : jMi l yX10_feed wsX10_feed jr_Room_feed E [.ref q_this, .int x1, .int x2, .int x3, .int x4, .int x5] (jw_Room_feed E q_this q_tape q_entries q_record q_page q_transcript q_planner q_runs q_chord q_outline q_tape_bytes c_tape_size a_tape_bytes) (T.1) (jw_Room_feed E q_this q_tape q_entries q_record q_page q_transcript q_planner q_runs q_chord q_outline q_tape_bytes T.2.1 T.2.2) := by
  refine jMi.begin (cc := cX10_feed) (maxL := 6) (ret := (some .int)) (by decide) rfl (Nat.le_of_ble_eq_true rfl) ?_
  intro p e s m args below meth c A ls Q hQ hx hb hr hml hown hlocks hts hK hA hP hD hS hl
  replace hown : s.vm.findClass RX10 = some m.cls := hown
  replace hl : lv_has ls 6 [(0, .ref q_this), (1, .int x1), (2, .int x2), (3, .int x3), (4, .int x4), (5, .int x5)] := hl
  have hin10 : ∀ w ∈ u_ws RX10 TX10 9, w ∈ wsX10_feed := by decide +kernel
  have hk_10 := hts (.fieldLink RX10 10 "StenoRoom" "tape" "LStenoRoom$Tape;") (by decide +kernel)
  unfold jf_Room_feed at h
  refine lv_aload_n hx hb dX10_feed_0 rfl (lv_at hl 0 rfl) ?_
  refine va_get (D := E.1) (ci := 10) (v := .ref q_tape) (C := RX10) (T := TX10) (N := 9) hx hb hts hin10 hown hK.1 hP 0 rfl rfl 0 (by decide) hk_10 (fun _ h9 => h9) rfl dX10_feed_1 ?_
  refine lv_bipush (v := 20) hx hb dX10_feed_4 (by decide) ?_
  obtain ⟨r6, hf6, h⟩ := jbd h
  refine j_callVi (own := RX10) (As := [.int 20]) (rest := []) hx hb hml hown hts hK hA hP hD hS (jc_Tape_hasRoom l E q_tape q_tape_bytes c_tape_size 20 N hf6) gX10_feed_X8_hasRoom rfl ⟨rfl, rfl⟩ 1 (by decide +kernel) rfl rfl 1 8 rfl rfl [1] [0, 2] [0, 2, 1] rfl rfl rfl rfl rfl rfl rfl hl.1 rfl rfl dX10_feed_6 (fun H locs hP hD hS => ?_)
  replace hP : va_P E.1 vwCl (jw_Room_feed E q_this q_tape q_entries q_record q_page q_transcript q_planner q_runs q_chord q_outline q_tape_bytes c_tape_size a_tape_bytes) H := hP
  replace hD : va_D A (jw_Room_feed E q_this q_tape q_entries q_record q_page q_transcript q_planner q_runs q_chord q_outline q_tape_bytes c_tape_size a_tape_bytes) := hD
  refine lv_if_ne (tgt := 14) hx hb dX10_feed_9 (by decide) (fun hq9 => ?_) (fun hq9 => ?_)
  · replace h := jif_f hq9 h
    refine lv_aload_n hx hb dX10_feed_14 rfl (lv_at hl 0 rfl) ?_
    refine va_get (D := E.1) (ci := 10) (v := .ref q_tape) (C := RX10) (T := TX10) (N := 9) hx hb hts hin10 hown hK.1 hP 0 rfl rfl 0 (by decide) hk_10 (fun _ h9 => h9) rfl dX10_feed_15 ?_
    refine lv_iload_n hx hb dX10_feed_18 rfl (lv_at hl 1 rfl) ?_
    obtain ⟨⟨c_tape_size_19, a_tape_bytes_19⟩, hf19, h⟩ := jbd h
    refine j_callVv (own := RX10) (As := [.int x1]) (rest := []) hx hb hml hown hts hK hA hP hD hS (jc_Tape_add l E q_tape q_tape_bytes c_tape_size a_tape_bytes x1 N hf19) gX10_feed_X8_add rfl ⟨rfl, rfl⟩ 1 (by decide +kernel) rfl rfl 1 8 rfl rfl [1, 2] [0] [0, 1, 2] rfl rfl rfl rfl rfl rfl rfl hl.1 rfl rfl dX10_feed_19 (fun H locs hP hD hS => ?_)
    replace hP : va_P E.1 vwCl (jw_Room_feed E q_this q_tape q_entries q_record q_page q_transcript q_planner q_runs q_chord q_outline q_tape_bytes c_tape_size_19 a_tape_bytes_19) H := hP
    replace hD : va_D A (jw_Room_feed E q_this q_tape q_entries q_record q_page q_transcript q_planner q_runs q_chord q_outline q_tape_bytes c_tape_size_19 a_tape_bytes_19) := hD
    refine lv_aload_n hx hb dX10_feed_22 rfl (lv_at hl 0 rfl) ?_
    refine va_get (D := E.1) (ci := 10) (v := .ref q_tape) (C := RX10) (T := TX10) (N := 9) hx hb hts hin10 hown hK.1 hP 0 rfl rfl 0 (by decide) hk_10 (fun _ h9 => h9) rfl dX10_feed_23 ?_
    refine lv_iload_n hx hb dX10_feed_26 rfl (lv_at hl 2 rfl) ?_
    obtain ⟨⟨c_tape_size_27, a_tape_bytes_27⟩, hf27, h⟩ := jbd h
    refine j_callVv (own := RX10) (As := [.int x2]) (rest := []) hx hb hml hown hts hK hA hP hD hS (jc_Tape_add l E q_tape q_tape_bytes c_tape_size_19 a_tape_bytes_19 x2 N hf27) gX10_feed_X8_add rfl ⟨rfl, rfl⟩ 1 (by decide +kernel) rfl rfl 1 8 rfl rfl [1, 2] [0] [0, 1, 2] rfl rfl rfl rfl rfl rfl rfl hl.1 rfl rfl dX10_feed_27 (fun H locs hP hD hS => ?_)
    replace hP : va_P E.1 vwCl (jw_Room_feed E q_this q_tape q_entries q_record q_page q_transcript q_planner q_runs q_chord q_outline q_tape_bytes c_tape_size_27 a_tape_bytes_27) H := hP
    replace hD : va_D A (jw_Room_feed E q_this q_tape q_entries q_record q_page q_transcript q_planner q_runs q_chord q_outline q_tape_bytes c_tape_size_27 a_tape_bytes_27) := hD
    refine lv_aload_n hx hb dX10_feed_30 rfl (lv_at hl 0 rfl) ?_
    refine va_get (D := E.1) (ci := 10) (v := .ref q_tape) (C := RX10) (T := TX10) (N := 9) hx hb hts hin10 hown hK.1 hP 0 rfl rfl 0 (by decide) hk_10 (fun _ h9 => h9) rfl dX10_feed_31 ?_
    refine lv_iload_n hx hb dX10_feed_34 rfl (lv_at hl 3 rfl) ?_
    obtain ⟨⟨c_tape_size_35, a_tape_bytes_35⟩, hf35, h⟩ := jbd h
    refine j_callVv (own := RX10) (As := [.int x3]) (rest := []) hx hb hml hown hts hK hA hP hD hS (jc_Tape_add l E q_tape q_tape_bytes c_tape_size_27 a_tape_bytes_27 x3 N hf35) gX10_feed_X8_add rfl ⟨rfl, rfl⟩ 1 (by decide +kernel) rfl rfl 1 8 rfl rfl [1, 2] [0] [0, 1, 2] rfl rfl rfl rfl rfl rfl rfl hl.1 rfl rfl dX10_feed_35 (fun H locs hP hD hS => ?_)
    replace hP : va_P E.1 vwCl (jw_Room_feed E q_this q_tape q_entries q_record q_page q_transcript q_planner q_runs q_chord q_outline q_tape_bytes c_tape_size_35 a_tape_bytes_35) H := hP
    replace hD : va_D A (jw_Room_feed E q_this q_tape q_entries q_record q_page q_transcript q_planner q_runs q_chord q_outline q_tape_bytes c_tape_size_35 a_tape_bytes_35) := hD
    refine lv_aload_n hx hb dX10_feed_38 rfl (lv_at hl 0 rfl) ?_
    refine va_get (D := E.1) (ci := 10) (v := .ref q_tape) (C := RX10) (T := TX10) (N := 9) hx hb hts hin10 hown hK.1 hP 0 rfl rfl 0 (by decide) hk_10 (fun _ h9 => h9) rfl dX10_feed_39 ?_
    refine lv_iload hx hb dX10_feed_42 (lv_at hl 4 rfl) ?_
    obtain ⟨⟨c_tape_size_44, a_tape_bytes_44⟩, hf44, h⟩ := jbd h
    refine j_callVv (own := RX10) (As := [.int x4]) (rest := []) hx hb hml hown hts hK hA hP hD hS (jc_Tape_add l E q_tape q_tape_bytes c_tape_size_35 a_tape_bytes_35 x4 N hf44) gX10_feed_X8_add rfl ⟨rfl, rfl⟩ 1 (by decide +kernel) rfl rfl 1 8 rfl rfl [1, 2] [0] [0, 1, 2] rfl rfl rfl rfl rfl rfl rfl hl.1 rfl rfl dX10_feed_44 (fun H locs hP hD hS => ?_)
    replace hP : va_P E.1 vwCl (jw_Room_feed E q_this q_tape q_entries q_record q_page q_transcript q_planner q_runs q_chord q_outline q_tape_bytes c_tape_size_44 a_tape_bytes_44) H := hP
    replace hD : va_D A (jw_Room_feed E q_this q_tape q_entries q_record q_page q_transcript q_planner q_runs q_chord q_outline q_tape_bytes c_tape_size_44 a_tape_bytes_44) := hD
    refine lv_aload_n hx hb dX10_feed_47 rfl (lv_at hl 0 rfl) ?_
    refine va_get (D := E.1) (ci := 10) (v := .ref q_tape) (C := RX10) (T := TX10) (N := 9) hx hb hts hin10 hown hK.1 hP 0 rfl rfl 0 (by decide) hk_10 (fun _ h9 => h9) rfl dX10_feed_48 ?_
    refine lv_iload hx hb dX10_feed_51 (lv_at hl 5 rfl) ?_
    obtain ⟨⟨c_tape_size_53, a_tape_bytes_53⟩, hf53, h⟩ := jbd h
    refine j_callVv (own := RX10) (As := [.int x5]) (rest := []) hx hb hml hown hts hK hA hP hD hS (jc_Tape_add l E q_tape q_tape_bytes c_tape_size_44 a_tape_bytes_44 x5 N hf53) gX10_feed_X8_add rfl ⟨rfl, rfl⟩ 1 (by decide +kernel) rfl rfl 1 8 rfl rfl [1, 2] [0] [0, 1, 2] rfl rfl rfl rfl rfl rfl rfl hl.1 rfl rfl dX10_feed_53 (fun H locs hP hD hS => ?_)
    replace hP : va_P E.1 vwCl (jw_Room_feed E q_this q_tape q_entries q_record q_page q_transcript q_planner q_runs q_chord q_outline q_tape_bytes c_tape_size_53 a_tape_bytes_53) H := hP
    replace hD : va_D A (jw_Room_feed E q_this q_tape q_entries q_record q_page q_transcript q_planner q_runs q_chord q_outline q_tape_bytes c_tape_size_53 a_tape_bytes_53) := hD
    refine lv_aload_n hx hb dX10_feed_56 rfl (lv_at hl 0 rfl) ?_
    refine va_get (D := E.1) (ci := 10) (v := .ref q_tape) (C := RX10) (T := TX10) (N := 9) hx hb hts hin10 hown hK.1 hP 0 rfl rfl 0 (by decide) hk_10 (fun _ h9 => h9) rfl dX10_feed_57 ?_
    obtain ⟨r60, hf60, h⟩ := jbd h
    refine j_callVi (own := RX10) (As := []) (rest := []) hx hb hml hown hts hK hA hP hD hS (jc_Tape_size l E q_tape q_tape_bytes c_tape_size_53 N hf60) gX10_feed_X8_size rfl ⟨rfl, rfl⟩ 0 (by decide +kernel) rfl rfl 1 8 rfl rfl [1] [0, 2] [0, 2, 1] rfl rfl rfl rfl rfl rfl rfl hl.1 rfl rfl dX10_feed_60 (fun H locs hP hD hS => ?_)
    replace hP : va_P E.1 vwCl (jw_Room_feed E q_this q_tape q_entries q_record q_page q_transcript q_planner q_runs q_chord q_outline q_tape_bytes c_tape_size_53 a_tape_bytes_53) H := hP
    replace hD : va_D A (jw_Room_feed E q_this q_tape q_entries q_record q_page q_transcript q_planner q_runs q_chord q_outline q_tape_bytes c_tape_size_53 a_tape_bytes_53) := hD
    exact j_iret (u := (r60, c_tape_size_53, a_tape_bytes_53)) (rv := (fun T => T.1)) (wv := (fun T => (jw_Room_feed E q_this q_tape q_entries q_record q_page q_transcript q_planner q_runs q_chord q_outline q_tape_bytes T.2.1 T.2.2))) h hQ hx hb hr rfl hlocks hS hP hD dX10_feed_63
  · replace h := jif_t hq9 h
    refine lv_iconst (v := (-1)) hx hb dX10_feed_12 (by decide) ?_
    exact j_iret (u := ((-1), c_tape_size, a_tape_bytes)) (rv := (fun T => T.1)) (wv := (fun T => (jw_Room_feed E q_this q_tape q_entries q_record q_page q_transcript q_planner q_runs q_chord q_outline q_tape_bytes T.2.1 T.2.2))) h hQ hx hb hr rfl hlocks hS hP hD dX10_feed_13
abbrev jw_Room_isStroke (E : jE) : va_W := []
def jr_Room_isStroke : Room := { frames := 0, cells := 0, slots := 0, locals := 0 }
set_option maxHeartbeats 4000000 in
set_option maxRecDepth 100000 in
theorem jc_Room_isStroke (l : Launch) (E : jE) (x0 : Int32) (N : Nat) {T : Int32} (h : jf_Room_isStroke x0 = some T) : jMi l yX10_isStroke wsX10_isStroke jr_Room_isStroke E [.int x0] (jw_Room_isStroke E) (T) (jw_Room_isStroke E) := by
  refine jMi.begin (cc := cX10_isStroke) (maxL := 1) (ret := (some .boolean)) (by decide) rfl (Nat.le_of_ble_eq_true rfl) ?_
  intro p e s m args below meth c A ls Q hQ hx hb hr hml hown hlocks hts hK hA hP hD hS hl
  replace hown : s.vm.findClass RX10 = some m.cls := hown
  replace hl : lv_has ls 1 [(0, .int x0)] := hl
  unfold jf_Room_isStroke at h
  refine lv_iload_n hx hb dX10_isStroke_0 rfl (lv_at hl 0 rfl) ?_
  refine lv_if_le (tgt := 14) hx hb dX10_isStroke_1 (by decide) (fun hq1 => ?_) (fun hq1 => ?_)
  · replace h := jif_t hq1 h
    refine lv_iconst (v := 0) hx hb dX10_isStroke_14 (by decide) ?_
    exact j_iret (u := 0) (rv := (fun T => T)) (wv := (fun _ => (jw_Room_isStroke E))) h hQ hx hb hr jb_0 hlocks hS hP hD dX10_isStroke_15
  · replace h := jif_f hq1 h
    refine lv_iload_n hx hb dX10_isStroke_4 rfl (lv_at hl 0 rfl) ?_
    refine lv_ldc (v := 4194303) hx hb hown (hts (.constant RX10 240 4194303) (by decide +kernel)) dX10_isStroke_5 ?_
    refine lv_icmp_gt (tgt := 14) hx hb dX10_isStroke_7 (by decide) (fun hq7 => ?_) (fun hq7 => ?_)
    · replace h := jif_t hq7 h
      refine lv_iconst (v := 0) hx hb dX10_isStroke_14 (by decide) ?_
      exact j_iret (u := 0) (rv := (fun T => T)) (wv := (fun _ => (jw_Room_isStroke E))) h hQ hx hb hr jb_0 hlocks hS hP hD dX10_isStroke_15
    · replace h := jif_f hq7 h
      refine lv_iconst (v := 1) hx hb dX10_isStroke_10 (by decide) ?_
      refine lv_goto (tgt := 15) hx hb dX10_isStroke_11 (by decide) ?_
      exact j_iret (u := 1) (rv := (fun T => T)) (wv := (fun _ => (jw_Room_isStroke E))) h hQ hx hb hr jb_1 hlocks hS hP hD dX10_isStroke_15
abbrev jw_Room_layOutline (E : jE) (q_this q_tape q_entries q_record q_page q_transcript q_planner q_runs q_chord q_outline : Nat) (a_outline : (Nat → Int32)) : va_W := [(q_this, .inr (10, [.ref q_tape, .ref q_entries, .ref q_record, .ref q_page, .ref q_transcript, .ref q_planner, .ref q_runs, .ref q_chord, .ref q_outline])), (q_outline, .inl (E.2.2.1, 5, .inl a_outline))]
def jr_Room_layOutline : Room := { frames := 1, cells := 0, slots := 0, locals := 20 }
set_option maxHeartbeats 4000000 in
set_option maxRecDepth 100000 in
theorem jc_Room_layOutline (l : Launch) (E : jE) (q_this q_tape q_entries q_record q_page q_transcript q_planner q_runs q_chord q_outline : Nat) (a_outline : (Nat → Int32)) (x1 : Int32) (x2 : Int32) (x3 : Int32) (x4 : Int32) (x5 : Int32) (N : Nat) {T : Int32 × (Nat → Int32)} (h : jf_Room_layOutline N x1 x2 x3 x4 x5 a_outline = some T) : jMi l yX10_layOutline wsX10_layOutline jr_Room_layOutline E [.ref q_this, .int x1, .int x2, .int x3, .int x4, .int x5] (jw_Room_layOutline E q_this q_tape q_entries q_record q_page q_transcript q_planner q_runs q_chord q_outline a_outline) (T.1) (jw_Room_layOutline E q_this q_tape q_entries q_record q_page q_transcript q_planner q_runs q_chord q_outline T.2) := by
  refine jMi.begin (cc := cX10_layOutline) (maxL := 8) (ret := (some .int)) (by decide) rfl (Nat.le_of_ble_eq_true rfl) ?_
  intro p e s m args below meth c A ls Q hQ hx hb hr hml hown hlocks hts hK hA hP hD hS hl
  replace hown : s.vm.findClass RX10 = some m.cls := hown
  replace hl : lv_has ls 8 [(0, .ref q_this), (1, .int x1), (2, .int x2), (3, .int x3), (4, .int x4), (5, .int x5)] := hl
  have hin10 : ∀ w ∈ u_ws RX10 TX10 9, w ∈ wsX10_layOutline := by decide +kernel
  have hk_71 := hts (.fieldLink RX10 71 "StenoRoom" "outline" "[I") (by decide +kernel)
  have kb87 : ∀ (k43 : Int32 → Int32 → (Nat → Int32) → Option (Int32 × (Nat → Int32))) (hk43 : ∀ (x6 : Int32) (x7 : Int32) (a_outline : (Nat → Int32)) (H : Heap) (locs : List Loc) (ls : Array Slot), k43 x6 x7 a_outline = some T → va_P E.1 vwCl (jw_Room_layOutline E q_this q_tape q_entries q_record q_page q_transcript q_planner q_runs q_chord q_outline a_outline) H → va_D A (jw_Room_layOutline E q_this q_tape q_entries q_record q_page q_transcript q_planner q_runs q_chord q_outline a_outline) → va_S A s.heap H locs → lv_has ls 8 [(0, .ref q_this), (6, .int x6), (7, .int x7)] → W p l e jr_Room_layOutline s m args below meth c H locs 0 0 Q (F0 m 43 ls [])) (x6 : Int32) (x7 : Int32) (a_outline : (Nat → Int32)) (H : Heap) (locs : List Loc) (ls : Array Slot), jf_Room_layOutline_b87 k43 x6 x7 a_outline = some T → va_P E.1 vwCl (jw_Room_layOutline E q_this q_tape q_entries q_record q_page q_transcript q_planner q_runs q_chord q_outline a_outline) H → va_D A (jw_Room_layOutline E q_this q_tape q_entries q_record q_page q_transcript q_planner q_runs q_chord q_outline a_outline) → va_S A s.heap H locs → lv_has ls 8 [(0, .ref q_this), (6, .int x6), (7, .int x7)] → W p l e jr_Room_layOutline s m args below meth c H locs 0 0 Q (F0 m 87 ls []) := by
    intro k43 hk43 x6 x7 a_outline H locs ls h hP hD hS hl
    unfold jf_Room_layOutline_b87 at h
    refine lv_iinc (v := (x7 + 1)) (lv' := [(7, .int (x7 + 1)), (0, .ref q_this), (6, .int x6)]) hx hb dX10_layOutline_87 hl (k := 2) rfl rfl (by decide) rfl (fun ls hl => ?_)
    refine lv_goto (tgt := 43) hx hb dX10_layOutline_90 (by decide) ?_
    exact hk43 x6 (x7 + 1) a_outline _ _ _ h hP hD hS (lv_sub hl [1, 2, 0] rfl)
  have kb75 : ∀ (k43 : Int32 → Int32 → (Nat → Int32) → Option (Int32 × (Nat → Int32))) (hk43 : ∀ (x6 : Int32) (x7 : Int32) (a_outline : (Nat → Int32)) (H : Heap) (locs : List Loc) (ls : Array Slot), k43 x6 x7 a_outline = some T → va_P E.1 vwCl (jw_Room_layOutline E q_this q_tape q_entries q_record q_page q_transcript q_planner q_runs q_chord q_outline a_outline) H → va_D A (jw_Room_layOutline E q_this q_tape q_entries q_record q_page q_transcript q_planner q_runs q_chord q_outline a_outline) → va_S A s.heap H locs → lv_has ls 8 [(0, .ref q_this), (6, .int x6), (7, .int x7)] → W p l e jr_Room_layOutline s m args below meth c H locs 0 0 Q (F0 m 43 ls [])) (x6 : Int32) (x7 : Int32) (a_outline : (Nat → Int32)) (H : Heap) (locs : List Loc) (ls : Array Slot), jf_Room_layOutline_b75 k43 x6 x7 a_outline = some T → va_P E.1 vwCl (jw_Room_layOutline E q_this q_tape q_entries q_record q_page q_transcript q_planner q_runs q_chord q_outline a_outline) H → va_D A (jw_Room_layOutline E q_this q_tape q_entries q_record q_page q_transcript q_planner q_runs q_chord q_outline a_outline) → va_S A s.heap H locs → lv_has ls 8 [(0, .ref q_this), (6, .int x6), (7, .int x7)] → W p l e jr_Room_layOutline s m args below meth c H locs 0 0 Q (F0 m 75 ls []) := by
    intro k43 hk43 x6 x7 a_outline H locs ls h hP hD hS hl
    unfold jf_Room_layOutline_b75 at h
    refine lv_aload_n hx hb dX10_layOutline_75 rfl (lv_at hl 0 rfl) ?_
    refine va_get (D := E.1) (ci := 10) (v := .ref q_outline) (C := RX10) (T := TX10) (N := 9) hx hb hts hin10 hown hK.1 hP 0 rfl rfl 8 (by decide) hk_71 (fun _ h9 => h9) rfl dX10_layOutline_76 ?_
    refine lv_iload hx hb dX10_layOutline_79 (lv_at hl 2 rfl) ?_
    obtain ⟨g81, h⟩ := jga_e h
    refine va_iald hx hb hK.1 hP 1 1 rfl rfl g81 dX10_layOutline_81 ?_
    refine lv_if_eq (tgt := 87) hx hb dX10_layOutline_82 (by decide) (fun hq82 => ?_) (fun hq82 => ?_)
    · replace h := jif_t hq82 h
      exact kb87 k43 hk43  x6 x7 a_outline _ _ _ h hP hD hS (lv_sub hl [0, 1, 2] rfl)
    · replace h := jif_f hq82 h
      refine lv_iconst (v := 0) hx hb dX10_layOutline_85 (by decide) ?_
      exact j_iret (u := (0, a_outline)) (rv := (fun T => T.1)) (wv := (fun T => (jw_Room_layOutline E q_this q_tape q_entries q_record q_page q_transcript q_planner q_runs q_chord q_outline T.2))) h hQ hx hb hr rfl hlocks hS hP hD dX10_layOutline_86
  have kb43 : ∀ (n : Nat) (x6 : Int32) (x7 : Int32) (a_outline : (Nat → Int32)) (H : Heap) (locs : List Loc) (ls : Array Slot), jf_Room_layOutline_b43 n x6 x7 a_outline = some T → va_P E.1 vwCl (jw_Room_layOutline E q_this q_tape q_entries q_record q_page q_transcript q_planner q_runs q_chord q_outline a_outline) H → va_D A (jw_Room_layOutline E q_this q_tape q_entries q_record q_page q_transcript q_planner q_runs q_chord q_outline a_outline) → va_S A s.heap H locs → lv_has ls 8 [(0, .ref q_this), (6, .int x6), (7, .int x7)] → W p l e jr_Room_layOutline s m args below meth c H locs 0 0 Q (F0 m 43 ls []) := by
    intro n
    induction n with
    | zero => intro x6 x7 a_outline H locs ls h; exact j_none (α := Int32 × (Nat → Int32)) h
    | succ n ih =>
      intro x6 x7 a_outline H locs ls h hP hD hS hl
      rw [jf_Room_layOutline_b43] at h
      refine lv_iload hx hb dX10_layOutline_43 (lv_at hl 2 rfl) ?_
      refine lv_iconst (v := 5) hx hb dX10_layOutline_45 (by decide) ?_
      refine lv_icmp_ge (tgt := 93) hx hb dX10_layOutline_46 (by decide) (fun hq46 => ?_) (fun hq46 => ?_)
      · replace h := jif_t hq46 h
        refine lv_iload hx hb dX10_layOutline_93 (lv_at hl 1 rfl) ?_
        exact j_iret (u := (x6, a_outline)) (rv := (fun T => T.1)) (wv := (fun T => (jw_Room_layOutline E q_this q_tape q_entries q_record q_page q_transcript q_planner q_runs q_chord q_outline T.2))) h hQ hx hb hr rfl hlocks hS hP hD dX10_layOutline_95
      · replace h := jif_f hq46 h
        refine lv_iload hx hb dX10_layOutline_49 (lv_at hl 1 rfl) ?_
        refine lv_iload hx hb dX10_layOutline_51 (lv_at hl 2 rfl) ?_
        refine lv_icmp_ne (tgt := 75) hx hb dX10_layOutline_53 (by decide) (fun hq53 => ?_) (fun hq53 => ?_)
        · replace h := jif_f hq53 h
          exact kb75 (jf_Room_layOutline_b43  n) ih  x6 x7 a_outline _ _ _ h hP hD hS (lv_sub hl [0, 1, 2] rfl)
        · replace h := jif_t hq53 h
          refine lv_aload_n hx hb dX10_layOutline_56 rfl (lv_at hl 0 rfl) ?_
          refine va_get (D := E.1) (ci := 10) (v := .ref q_outline) (C := RX10) (T := TX10) (N := 9) hx hb hts hin10 hown hK.1 hP 0 rfl rfl 8 (by decide) hk_71 (fun _ h9 => h9) rfl dX10_layOutline_57 ?_
          refine lv_iload hx hb dX10_layOutline_60 (lv_at hl 2 rfl) ?_
          obtain ⟨g62, h⟩ := jga_e h
          refine va_iald hx hb hK.1 hP 1 1 rfl rfl g62 dX10_layOutline_62 ?_
          obtain ⟨r63, hf63, h⟩ := jbd h
          refine j_callSi (own := RX10) (As := [.int (a_outline x7.toNatClampNeg)]) (rest := []) hx hb hml hown hts hK hA hP hD hS (jc_Room_isStroke l E (a_outline x7.toNatClampNeg) N hf63) gX10_layOutline_X10_isStroke rfl ⟨rfl, rfl⟩ 1 (by decide +kernel) rfl rfl [] [0, 1] [0, 1] rfl rfl rfl rfl rfl rfl rfl hl.1 rfl rfl dX10_layOutline_63 (fun H locs hP hD hS => ?_)
          replace hP : va_P E.1 vwCl (jw_Room_layOutline E q_this q_tape q_entries q_record q_page q_transcript q_planner q_runs q_chord q_outline a_outline) H := hP
          replace hD : va_D A (jw_Room_layOutline E q_this q_tape q_entries q_record q_page q_transcript q_planner q_runs q_chord q_outline a_outline) := hD
          refine lv_if_eq (tgt := 75) hx hb dX10_layOutline_66 (by decide) (fun hq66 => ?_) (fun hq66 => ?_)
          · replace h := jif_t hq66 h
            exact kb75 (jf_Room_layOutline_b43  n) ih  x6 x7 a_outline _ _ _ h hP hD hS (lv_sub hl [0, 1, 2] rfl)
          · replace h := jif_f hq66 h
            refine lv_iinc (v := (x6 + 1)) (lv' := [(6, .int (x6 + 1)), (0, .ref q_this), (7, .int x7)]) hx hb dX10_layOutline_69 hl (k := 1) rfl rfl (by decide) rfl (fun ls hl => ?_)
            refine lv_goto (tgt := 87) hx hb dX10_layOutline_72 (by decide) ?_
            exact kb87 (jf_Room_layOutline_b43  n) ih  (x6 + 1) x7 a_outline _ _ _ h hP hD hS (lv_sub hl [1, 0, 2] rfl)
  unfold jf_Room_layOutline at h
  refine lv_aload_n hx hb dX10_layOutline_0 rfl (lv_at hl 0 rfl) ?_
  refine va_get (D := E.1) (ci := 10) (v := .ref q_outline) (C := RX10) (T := TX10) (N := 9) hx hb hts hin10 hown hK.1 hP 0 rfl rfl 8 (by decide) hk_71 (fun _ h9 => h9) rfl dX10_layOutline_1 ?_
  refine lv_iconst (v := 0) hx hb dX10_layOutline_4 (by decide) ?_
  refine lv_iload_n hx hb dX10_layOutline_5 rfl (lv_at hl 1 rfl) ?_
  obtain ⟨g6, h⟩ := jga_e h
  refine va_iast hx hb hK.1 hP hD hS 1 1 rfl rfl g6 dX10_layOutline_6 (fun H locs hP hD hS => ?_)
  replace hP : va_P E.1 vwCl (jw_Room_layOutline E q_this q_tape q_entries q_record q_page q_transcript q_planner q_runs q_chord q_outline (upd a_outline (0 : Int32).toNatClampNeg x1)) H := hP
  replace hD : va_D A (jw_Room_layOutline E q_this q_tape q_entries q_record q_page q_transcript q_planner q_runs q_chord q_outline (upd a_outline (0 : Int32).toNatClampNeg x1)) := hD
  refine lv_aload_n hx hb dX10_layOutline_7 rfl (lv_at hl 0 rfl) ?_
  refine va_get (D := E.1) (ci := 10) (v := .ref q_outline) (C := RX10) (T := TX10) (N := 9) hx hb hts hin10 hown hK.1 hP 0 rfl rfl 8 (by decide) hk_71 (fun _ h9 => h9) rfl dX10_layOutline_8 ?_
  refine lv_iconst (v := 1) hx hb dX10_layOutline_11 (by decide) ?_
  refine lv_iload_n hx hb dX10_layOutline_12 rfl (lv_at hl 2 rfl) ?_
  obtain ⟨g13, h⟩ := jga_e h
  refine va_iast hx hb hK.1 hP hD hS 1 1 rfl rfl g13 dX10_layOutline_13 (fun H locs hP hD hS => ?_)
  replace hP : va_P E.1 vwCl (jw_Room_layOutline E q_this q_tape q_entries q_record q_page q_transcript q_planner q_runs q_chord q_outline (upd (upd a_outline (0 : Int32).toNatClampNeg x1) (1 : Int32).toNatClampNeg x2)) H := hP
  replace hD : va_D A (jw_Room_layOutline E q_this q_tape q_entries q_record q_page q_transcript q_planner q_runs q_chord q_outline (upd (upd a_outline (0 : Int32).toNatClampNeg x1) (1 : Int32).toNatClampNeg x2)) := hD
  refine lv_aload_n hx hb dX10_layOutline_14 rfl (lv_at hl 0 rfl) ?_
  refine va_get (D := E.1) (ci := 10) (v := .ref q_outline) (C := RX10) (T := TX10) (N := 9) hx hb hts hin10 hown hK.1 hP 0 rfl rfl 8 (by decide) hk_71 (fun _ h9 => h9) rfl dX10_layOutline_15 ?_
  refine lv_iconst (v := 2) hx hb dX10_layOutline_18 (by decide) ?_
  refine lv_iload_n hx hb dX10_layOutline_19 rfl (lv_at hl 3 rfl) ?_
  obtain ⟨g20, h⟩ := jga_e h
  refine va_iast hx hb hK.1 hP hD hS 1 1 rfl rfl g20 dX10_layOutline_20 (fun H locs hP hD hS => ?_)
  replace hP : va_P E.1 vwCl (jw_Room_layOutline E q_this q_tape q_entries q_record q_page q_transcript q_planner q_runs q_chord q_outline (upd (upd (upd a_outline (0 : Int32).toNatClampNeg x1) (1 : Int32).toNatClampNeg x2) (2 : Int32).toNatClampNeg x3)) H := hP
  replace hD : va_D A (jw_Room_layOutline E q_this q_tape q_entries q_record q_page q_transcript q_planner q_runs q_chord q_outline (upd (upd (upd a_outline (0 : Int32).toNatClampNeg x1) (1 : Int32).toNatClampNeg x2) (2 : Int32).toNatClampNeg x3)) := hD
  refine lv_aload_n hx hb dX10_layOutline_21 rfl (lv_at hl 0 rfl) ?_
  refine va_get (D := E.1) (ci := 10) (v := .ref q_outline) (C := RX10) (T := TX10) (N := 9) hx hb hts hin10 hown hK.1 hP 0 rfl rfl 8 (by decide) hk_71 (fun _ h9 => h9) rfl dX10_layOutline_22 ?_
  refine lv_iconst (v := 3) hx hb dX10_layOutline_25 (by decide) ?_
  refine lv_iload hx hb dX10_layOutline_26 (lv_at hl 4 rfl) ?_
  obtain ⟨g28, h⟩ := jga_e h
  refine va_iast hx hb hK.1 hP hD hS 1 1 rfl rfl g28 dX10_layOutline_28 (fun H locs hP hD hS => ?_)
  replace hP : va_P E.1 vwCl (jw_Room_layOutline E q_this q_tape q_entries q_record q_page q_transcript q_planner q_runs q_chord q_outline (upd (upd (upd (upd a_outline (0 : Int32).toNatClampNeg x1) (1 : Int32).toNatClampNeg x2) (2 : Int32).toNatClampNeg x3) (3 : Int32).toNatClampNeg x4)) H := hP
  replace hD : va_D A (jw_Room_layOutline E q_this q_tape q_entries q_record q_page q_transcript q_planner q_runs q_chord q_outline (upd (upd (upd (upd a_outline (0 : Int32).toNatClampNeg x1) (1 : Int32).toNatClampNeg x2) (2 : Int32).toNatClampNeg x3) (3 : Int32).toNatClampNeg x4)) := hD
  refine lv_aload_n hx hb dX10_layOutline_29 rfl (lv_at hl 0 rfl) ?_
  refine va_get (D := E.1) (ci := 10) (v := .ref q_outline) (C := RX10) (T := TX10) (N := 9) hx hb hts hin10 hown hK.1 hP 0 rfl rfl 8 (by decide) hk_71 (fun _ h9 => h9) rfl dX10_layOutline_30 ?_
  refine lv_iconst (v := 4) hx hb dX10_layOutline_33 (by decide) ?_
  refine lv_iload hx hb dX10_layOutline_34 (lv_at hl 5 rfl) ?_
  obtain ⟨g36, h⟩ := jga_e h
  refine va_iast hx hb hK.1 hP hD hS 1 1 rfl rfl g36 dX10_layOutline_36 (fun H locs hP hD hS => ?_)
  replace hP : va_P E.1 vwCl (jw_Room_layOutline E q_this q_tape q_entries q_record q_page q_transcript q_planner q_runs q_chord q_outline (upd (upd (upd (upd (upd a_outline (0 : Int32).toNatClampNeg x1) (1 : Int32).toNatClampNeg x2) (2 : Int32).toNatClampNeg x3) (3 : Int32).toNatClampNeg x4) (4 : Int32).toNatClampNeg x5)) H := hP
  replace hD : va_D A (jw_Room_layOutline E q_this q_tape q_entries q_record q_page q_transcript q_planner q_runs q_chord q_outline (upd (upd (upd (upd (upd a_outline (0 : Int32).toNatClampNeg x1) (1 : Int32).toNatClampNeg x2) (2 : Int32).toNatClampNeg x3) (3 : Int32).toNatClampNeg x4) (4 : Int32).toNatClampNeg x5)) := hD
  refine lv_iconst (v := 0) hx hb dX10_layOutline_37 (by decide) ?_
  refine lv_istore (lv' := [(6, .int 0), (0, .ref q_this), (1, .int x1), (2, .int x2), (3, .int x3), (4, .int x4), (5, .int x5)]) hx hb dX10_layOutline_38 hl (by decide) rfl (fun ls hl => ?_)
  refine lv_iconst (v := 0) hx hb dX10_layOutline_40 (by decide) ?_
  refine lv_istore (lv' := [(7, .int 0), (6, .int 0), (0, .ref q_this), (1, .int x1), (2, .int x2), (3, .int x3), (4, .int x4), (5, .int x5)]) hx hb dX10_layOutline_41 hl (by decide) rfl (fun ls hl => ?_)
  exact kb43  N 0 0 (upd (upd (upd (upd (upd a_outline (0 : Int32).toNatClampNeg x1) (1 : Int32).toNatClampNeg x2) (2 : Int32).toNatClampNeg x3) (3 : Int32).toNatClampNeg x4) (4 : Int32).toNatClampNeg x5) _ _ _ h hP hD hS (lv_sub hl [2, 1, 0] rfl)
abbrev jw_Book_takesLength (E : jE) : va_W := []
def jr_Book_takesLength : Room := { frames := 0, cells := 0, slots := 0, locals := 0 }
set_option maxHeartbeats 4000000 in
set_option maxRecDepth 100000 in
theorem jc_Book_takesLength (l : Launch) (E : jE) (x0 : Int32) (x1 : Int32) (N : Nat) {T : Int32} (h : jf_Book_takesLength x0 x1 = some T) : jMi l yX0_takesLength wsX0_takesLength jr_Book_takesLength E [.int x0, .int x1] (jw_Book_takesLength E) (T) (jw_Book_takesLength E) := by
  refine jMi.begin (cc := cX0_takesLength) (maxL := 2) (ret := (some .boolean)) (by decide) rfl (Nat.le_of_ble_eq_true rfl) ?_
  intro p e s m args below meth c A ls Q hQ hx hb hr hml hown hlocks hts hK hA hP hD hS hl
  replace hown : s.vm.findClass RX0 = some m.cls := hown
  replace hl : lv_has ls 2 [(0, .int x0), (1, .int x1)] := hl
  unfold jf_Book_takesLength at h
  refine lv_iload_n hx hb dX0_takesLength_0 rfl (lv_at hl 0 rfl) ?_
  by_cases hq1_0 : x0 = 0
  · replace h := jif_t hq1_0 h
    refine lv_tableIn (off := 51) (tgt := 52) hx hb dX0_takesLength_1 (by rw [hq1_0]; decide) (by rw [hq1_0]; decide) (by rw [hq1_0]; rfl) (by decide) ?_
    refine lv_iload_n hx hb dX0_takesLength_52 rfl (lv_at hl 1 rfl) ?_
    refine lv_iconst (v := 1) hx hb dX0_takesLength_53 (by decide) ?_
    refine lv_icmp_lt (tgt := 67) hx hb dX0_takesLength_54 (by decide) (fun hq54 => ?_) (fun hq54 => ?_)
    · replace h := jif_t hq54 h
      refine lv_iconst (v := 0) hx hb dX0_takesLength_67 (by decide) ?_
      exact j_iret (u := 0) (rv := (fun T => T)) (wv := (fun _ => (jw_Book_takesLength E))) h hQ hx hb hr jb_0 hlocks hS hP hD dX0_takesLength_68
    · replace h := jif_f hq54 h
      refine lv_iload_n hx hb dX0_takesLength_57 rfl (lv_at hl 1 rfl) ?_
      refine lv_bipush (v := 16) hx hb dX0_takesLength_58 (by decide) ?_
      refine lv_icmp_gt (tgt := 67) hx hb dX0_takesLength_60 (by decide) (fun hq60 => ?_) (fun hq60 => ?_)
      · replace h := jif_t hq60 h
        refine lv_iconst (v := 0) hx hb dX0_takesLength_67 (by decide) ?_
        exact j_iret (u := 0) (rv := (fun T => T)) (wv := (fun _ => (jw_Book_takesLength E))) h hQ hx hb hr jb_0 hlocks hS hP hD dX0_takesLength_68
      · replace h := jif_f hq60 h
        refine lv_iconst (v := 1) hx hb dX0_takesLength_63 (by decide) ?_
        refine lv_goto (tgt := 68) hx hb dX0_takesLength_64 (by decide) ?_
        exact j_iret (u := 1) (rv := (fun T => T)) (wv := (fun _ => (jw_Book_takesLength E))) h hQ hx hb hr jb_1 hlocks hS hP hD dX0_takesLength_68
  replace h := jif_f hq1_0 h
  by_cases hq1_1 : x0 = 1
  · replace h := jif_t hq1_1 h
    refine lv_tableIn (off := 51) (tgt := 52) hx hb dX0_takesLength_1 (by rw [hq1_1]; decide) (by rw [hq1_1]; decide) (by rw [hq1_1]; rfl) (by decide) ?_
    refine lv_iload_n hx hb dX0_takesLength_52 rfl (lv_at hl 1 rfl) ?_
    refine lv_iconst (v := 1) hx hb dX0_takesLength_53 (by decide) ?_
    refine lv_icmp_lt (tgt := 67) hx hb dX0_takesLength_54 (by decide) (fun hq54 => ?_) (fun hq54 => ?_)
    · replace h := jif_t hq54 h
      refine lv_iconst (v := 0) hx hb dX0_takesLength_67 (by decide) ?_
      exact j_iret (u := 0) (rv := (fun T => T)) (wv := (fun _ => (jw_Book_takesLength E))) h hQ hx hb hr jb_0 hlocks hS hP hD dX0_takesLength_68
    · replace h := jif_f hq54 h
      refine lv_iload_n hx hb dX0_takesLength_57 rfl (lv_at hl 1 rfl) ?_
      refine lv_bipush (v := 16) hx hb dX0_takesLength_58 (by decide) ?_
      refine lv_icmp_gt (tgt := 67) hx hb dX0_takesLength_60 (by decide) (fun hq60 => ?_) (fun hq60 => ?_)
      · replace h := jif_t hq60 h
        refine lv_iconst (v := 0) hx hb dX0_takesLength_67 (by decide) ?_
        exact j_iret (u := 0) (rv := (fun T => T)) (wv := (fun _ => (jw_Book_takesLength E))) h hQ hx hb hr jb_0 hlocks hS hP hD dX0_takesLength_68
      · replace h := jif_f hq60 h
        refine lv_iconst (v := 1) hx hb dX0_takesLength_63 (by decide) ?_
        refine lv_goto (tgt := 68) hx hb dX0_takesLength_64 (by decide) ?_
        exact j_iret (u := 1) (rv := (fun T => T)) (wv := (fun _ => (jw_Book_takesLength E))) h hQ hx hb hr jb_1 hlocks hS hP hD dX0_takesLength_68
  replace h := jif_f hq1_1 h
  by_cases hq1_2 : x0 = 2
  · replace h := jif_t hq1_2 h
    refine lv_tableIn (off := 51) (tgt := 52) hx hb dX0_takesLength_1 (by rw [hq1_2]; decide) (by rw [hq1_2]; decide) (by rw [hq1_2]; rfl) (by decide) ?_
    refine lv_iload_n hx hb dX0_takesLength_52 rfl (lv_at hl 1 rfl) ?_
    refine lv_iconst (v := 1) hx hb dX0_takesLength_53 (by decide) ?_
    refine lv_icmp_lt (tgt := 67) hx hb dX0_takesLength_54 (by decide) (fun hq54 => ?_) (fun hq54 => ?_)
    · replace h := jif_t hq54 h
      refine lv_iconst (v := 0) hx hb dX0_takesLength_67 (by decide) ?_
      exact j_iret (u := 0) (rv := (fun T => T)) (wv := (fun _ => (jw_Book_takesLength E))) h hQ hx hb hr jb_0 hlocks hS hP hD dX0_takesLength_68
    · replace h := jif_f hq54 h
      refine lv_iload_n hx hb dX0_takesLength_57 rfl (lv_at hl 1 rfl) ?_
      refine lv_bipush (v := 16) hx hb dX0_takesLength_58 (by decide) ?_
      refine lv_icmp_gt (tgt := 67) hx hb dX0_takesLength_60 (by decide) (fun hq60 => ?_) (fun hq60 => ?_)
      · replace h := jif_t hq60 h
        refine lv_iconst (v := 0) hx hb dX0_takesLength_67 (by decide) ?_
        exact j_iret (u := 0) (rv := (fun T => T)) (wv := (fun _ => (jw_Book_takesLength E))) h hQ hx hb hr jb_0 hlocks hS hP hD dX0_takesLength_68
      · replace h := jif_f hq60 h
        refine lv_iconst (v := 1) hx hb dX0_takesLength_63 (by decide) ?_
        refine lv_goto (tgt := 68) hx hb dX0_takesLength_64 (by decide) ?_
        exact j_iret (u := 1) (rv := (fun T => T)) (wv := (fun _ => (jw_Book_takesLength E))) h hQ hx hb hr jb_1 hlocks hS hP hD dX0_takesLength_68
  replace h := jif_f hq1_2 h
  by_cases hq1_3 : x0 = 3
  · replace h := jif_t hq1_3 h
    refine lv_tableIn (off := 68) (tgt := 69) hx hb dX0_takesLength_1 (by rw [hq1_3]; decide) (by rw [hq1_3]; decide) (by rw [hq1_3]; rfl) (by decide) ?_
    refine lv_iload_n hx hb dX0_takesLength_69 rfl (lv_at hl 1 rfl) ?_
    refine lv_iconst (v := 1) hx hb dX0_takesLength_70 (by decide) ?_
    refine lv_icmp_ne (tgt := 78) hx hb dX0_takesLength_71 (by decide) (fun hq71 => ?_) (fun hq71 => ?_)
    · replace h := jif_f hq71 h
      refine lv_iconst (v := 0) hx hb dX0_takesLength_78 (by decide) ?_
      exact j_iret (u := 0) (rv := (fun T => T)) (wv := (fun _ => (jw_Book_takesLength E))) h hQ hx hb hr jb_0 hlocks hS hP hD dX0_takesLength_79
    · replace h := jif_t hq71 h
      refine lv_iconst (v := 1) hx hb dX0_takesLength_74 (by decide) ?_
      refine lv_goto (tgt := 79) hx hb dX0_takesLength_75 (by decide) ?_
      exact j_iret (u := 1) (rv := (fun T => T)) (wv := (fun _ => (jw_Book_takesLength E))) h hQ hx hb hr jb_1 hlocks hS hP hD dX0_takesLength_79
  replace h := jif_f hq1_3 h
  by_cases hq1_4 : x0 = 4
  · replace h := jif_t hq1_4 h
    refine lv_tableIn (off := 68) (tgt := 69) hx hb dX0_takesLength_1 (by rw [hq1_4]; decide) (by rw [hq1_4]; decide) (by rw [hq1_4]; rfl) (by decide) ?_
    refine lv_iload_n hx hb dX0_takesLength_69 rfl (lv_at hl 1 rfl) ?_
    refine lv_iconst (v := 1) hx hb dX0_takesLength_70 (by decide) ?_
    refine lv_icmp_ne (tgt := 78) hx hb dX0_takesLength_71 (by decide) (fun hq71 => ?_) (fun hq71 => ?_)
    · replace h := jif_f hq71 h
      refine lv_iconst (v := 0) hx hb dX0_takesLength_78 (by decide) ?_
      exact j_iret (u := 0) (rv := (fun T => T)) (wv := (fun _ => (jw_Book_takesLength E))) h hQ hx hb hr jb_0 hlocks hS hP hD dX0_takesLength_79
    · replace h := jif_t hq71 h
      refine lv_iconst (v := 1) hx hb dX0_takesLength_74 (by decide) ?_
      refine lv_goto (tgt := 79) hx hb dX0_takesLength_75 (by decide) ?_
      exact j_iret (u := 1) (rv := (fun T => T)) (wv := (fun _ => (jw_Book_takesLength E))) h hQ hx hb hr jb_1 hlocks hS hP hD dX0_takesLength_79
  replace h := jif_f hq1_4 h
  by_cases hq1_5 : x0 = 5
  · replace h := jif_t hq1_5 h
    refine lv_tableIn (off := 51) (tgt := 52) hx hb dX0_takesLength_1 (by rw [hq1_5]; decide) (by rw [hq1_5]; decide) (by rw [hq1_5]; rfl) (by decide) ?_
    refine lv_iload_n hx hb dX0_takesLength_52 rfl (lv_at hl 1 rfl) ?_
    refine lv_iconst (v := 1) hx hb dX0_takesLength_53 (by decide) ?_
    refine lv_icmp_lt (tgt := 67) hx hb dX0_takesLength_54 (by decide) (fun hq54 => ?_) (fun hq54 => ?_)
    · replace h := jif_t hq54 h
      refine lv_iconst (v := 0) hx hb dX0_takesLength_67 (by decide) ?_
      exact j_iret (u := 0) (rv := (fun T => T)) (wv := (fun _ => (jw_Book_takesLength E))) h hQ hx hb hr jb_0 hlocks hS hP hD dX0_takesLength_68
    · replace h := jif_f hq54 h
      refine lv_iload_n hx hb dX0_takesLength_57 rfl (lv_at hl 1 rfl) ?_
      refine lv_bipush (v := 16) hx hb dX0_takesLength_58 (by decide) ?_
      refine lv_icmp_gt (tgt := 67) hx hb dX0_takesLength_60 (by decide) (fun hq60 => ?_) (fun hq60 => ?_)
      · replace h := jif_t hq60 h
        refine lv_iconst (v := 0) hx hb dX0_takesLength_67 (by decide) ?_
        exact j_iret (u := 0) (rv := (fun T => T)) (wv := (fun _ => (jw_Book_takesLength E))) h hQ hx hb hr jb_0 hlocks hS hP hD dX0_takesLength_68
      · replace h := jif_f hq60 h
        refine lv_iconst (v := 1) hx hb dX0_takesLength_63 (by decide) ?_
        refine lv_goto (tgt := 68) hx hb dX0_takesLength_64 (by decide) ?_
        exact j_iret (u := 1) (rv := (fun T => T)) (wv := (fun _ => (jw_Book_takesLength E))) h hQ hx hb hr jb_1 hlocks hS hP hD dX0_takesLength_68
  replace h := jif_f hq1_5 h
  by_cases hq1_6 : x0 = 6
  · replace h := jif_t hq1_6 h
    refine lv_tableIn (off := 79) (tgt := 80) hx hb dX0_takesLength_1 (by rw [hq1_6]; decide) (by rw [hq1_6]; decide) (by rw [hq1_6]; rfl) (by decide) ?_
    refine lv_iload_n hx hb dX0_takesLength_80 rfl (lv_at hl 1 rfl) ?_
    refine lv_if_ne (tgt := 88) hx hb dX0_takesLength_81 (by decide) (fun hq81 => ?_) (fun hq81 => ?_)
    · replace h := jif_f hq81 h
      refine lv_iconst (v := 0) hx hb dX0_takesLength_88 (by decide) ?_
      exact j_iret (u := 0) (rv := (fun T => T)) (wv := (fun _ => (jw_Book_takesLength E))) h hQ hx hb hr jb_0 hlocks hS hP hD dX0_takesLength_89
    · replace h := jif_t hq81 h
      refine lv_iconst (v := 1) hx hb dX0_takesLength_84 (by decide) ?_
      refine lv_goto (tgt := 89) hx hb dX0_takesLength_85 (by decide) ?_
      exact j_iret (u := 1) (rv := (fun T => T)) (wv := (fun _ => (jw_Book_takesLength E))) h hQ hx hb hr jb_1 hlocks hS hP hD dX0_takesLength_89
  replace h := jif_f hq1_6 h
  by_cases hq1_7 : x0 = 7
  · replace h := jif_t hq1_7 h
    refine lv_tableIn (off := 79) (tgt := 80) hx hb dX0_takesLength_1 (by rw [hq1_7]; decide) (by rw [hq1_7]; decide) (by rw [hq1_7]; rfl) (by decide) ?_
    refine lv_iload_n hx hb dX0_takesLength_80 rfl (lv_at hl 1 rfl) ?_
    refine lv_if_ne (tgt := 88) hx hb dX0_takesLength_81 (by decide) (fun hq81 => ?_) (fun hq81 => ?_)
    · replace h := jif_f hq81 h
      refine lv_iconst (v := 0) hx hb dX0_takesLength_88 (by decide) ?_
      exact j_iret (u := 0) (rv := (fun T => T)) (wv := (fun _ => (jw_Book_takesLength E))) h hQ hx hb hr jb_0 hlocks hS hP hD dX0_takesLength_89
    · replace h := jif_t hq81 h
      refine lv_iconst (v := 1) hx hb dX0_takesLength_84 (by decide) ?_
      refine lv_goto (tgt := 89) hx hb dX0_takesLength_85 (by decide) ?_
      exact j_iret (u := 1) (rv := (fun T => T)) (wv := (fun _ => (jw_Book_takesLength E))) h hQ hx hb hr jb_1 hlocks hS hP hD dX0_takesLength_89
  replace h := jif_f hq1_7 h
  by_cases hq1_8 : x0 = 8
  · replace h := jif_t hq1_8 h
    refine lv_tableIn (off := 79) (tgt := 80) hx hb dX0_takesLength_1 (by rw [hq1_8]; decide) (by rw [hq1_8]; decide) (by rw [hq1_8]; rfl) (by decide) ?_
    refine lv_iload_n hx hb dX0_takesLength_80 rfl (lv_at hl 1 rfl) ?_
    refine lv_if_ne (tgt := 88) hx hb dX0_takesLength_81 (by decide) (fun hq81 => ?_) (fun hq81 => ?_)
    · replace h := jif_f hq81 h
      refine lv_iconst (v := 0) hx hb dX0_takesLength_88 (by decide) ?_
      exact j_iret (u := 0) (rv := (fun T => T)) (wv := (fun _ => (jw_Book_takesLength E))) h hQ hx hb hr jb_0 hlocks hS hP hD dX0_takesLength_89
    · replace h := jif_t hq81 h
      refine lv_iconst (v := 1) hx hb dX0_takesLength_84 (by decide) ?_
      refine lv_goto (tgt := 89) hx hb dX0_takesLength_85 (by decide) ?_
      exact j_iret (u := 1) (rv := (fun T => T)) (wv := (fun _ => (jw_Book_takesLength E))) h hQ hx hb hr jb_1 hlocks hS hP hD dX0_takesLength_89
  replace h := jif_f hq1_8 h
  refine lv_tableOut (tgt := 90) hx hb dX0_takesLength_1 (j_tabout 0 8 (by decide) (fun k h1 h2 => by rcases (show k = 0 ∨ k = 1 ∨ k = 2 ∨ k = 3 ∨ k = 4 ∨ k = 5 ∨ k = 6 ∨ k = 7 ∨ k = 8 by omega) with rfl | rfl | rfl | rfl | rfl | rfl | rfl | rfl | rfl <;> first | exact hq1_0 | exact hq1_1 | exact hq1_2 | exact hq1_3 | exact hq1_4 | exact hq1_5 | exact hq1_6 | exact hq1_7 | exact hq1_8)) (by decide) ?_
  refine lv_iconst (v := 0) hx hb dX0_takesLength_90 (by decide) ?_
  exact j_iret (u := 0) (rv := (fun T => T)) (wv := (fun _ => (jw_Book_takesLength E))) h hQ hx hb hr jb_0 hlocks hS hP hD dX0_takesLength_91
abbrev jw_Tape_byteAt (E : jE) (q_this q_bytes : Nat) (c_size : Int32) (a_bytes : (Nat → Int32)) : va_W := [(q_this, .inr (8, [.ref q_bytes, .int c_size])), (q_bytes, .inl (E.2.1, 80, .inl a_bytes))]
def jr_Tape_byteAt : Room := { frames := 0, cells := 0, slots := 0, locals := 0 }
set_option maxHeartbeats 4000000 in
set_option maxRecDepth 100000 in
theorem jc_Tape_byteAt (l : Launch) (E : jE) (q_this q_bytes : Nat) (c_size : Int32) (a_bytes : (Nat → Int32)) (x1 : Int32) (N : Nat) {T : Int32} (h : jf_Tape_byteAt x1 c_size a_bytes = some T) : jMi l yX8_byteAt wsX8_byteAt jr_Tape_byteAt E [.ref q_this, .int x1] (jw_Tape_byteAt E q_this q_bytes c_size a_bytes) (T) (jw_Tape_byteAt E q_this q_bytes c_size a_bytes) := by
  refine jMi.begin (cc := cX8_byteAt) (maxL := 2) (ret := (some .int)) (by decide) rfl (Nat.le_of_ble_eq_true rfl) ?_
  intro p e s m args below meth c A ls Q hQ hx hb hr hml hown hlocks hts hK hA hP hD hS hl
  replace hown : s.vm.findClass RX8 = some m.cls := hown
  replace hl : lv_has ls 2 [(0, .ref q_this), (1, .int x1)] := hl
  have hin8 : ∀ w ∈ u_ws RX8 TX8 2, w ∈ wsX8_byteAt := by decide +kernel
  have hk_9 := hts (.fieldLink RX8 9 "StenoRoom$Tape" "bytes" "[B") (by decide +kernel)
  have hk_15 := hts (.fieldLink RX8 15 "StenoRoom$Tape" "size" "I") (by decide +kernel)
  unfold jf_Tape_byteAt at h
  refine lv_iload_n hx hb dX8_byteAt_0 rfl (lv_at hl 1 rfl) ?_
  refine lv_if_lt (tgt := 25) hx hb dX8_byteAt_1 (by decide) (fun hq1 => ?_) (fun hq1 => ?_)
  · replace h := jif_t hq1 h
    refine lv_iconst (v := (-1)) hx hb dX8_byteAt_25 (by decide) ?_
    exact j_iret (u := (-1)) (rv := (fun T => T)) (wv := (fun _ => (jw_Tape_byteAt E q_this q_bytes c_size a_bytes))) h hQ hx hb hr rfl hlocks hS hP hD dX8_byteAt_26
  · replace h := jif_f hq1 h
    refine lv_iload_n hx hb dX8_byteAt_4 rfl (lv_at hl 1 rfl) ?_
    refine lv_aload_n hx hb dX8_byteAt_5 rfl (lv_at hl 0 rfl) ?_
    refine va_get (D := E.1) (ci := 8) (v := .int c_size) (C := RX8) (T := TX8) (N := 2) hx hb hts hin8 hown hK.1 hP 0 rfl rfl 1 (by decide) hk_15 (fun _ h9 => h9) rfl dX8_byteAt_6 ?_
    refine lv_icmp_ge (tgt := 25) hx hb dX8_byteAt_9 (by decide) (fun hq9 => ?_) (fun hq9 => ?_)
    · replace h := jif_t hq9 h
      refine lv_iconst (v := (-1)) hx hb dX8_byteAt_25 (by decide) ?_
      exact j_iret (u := (-1)) (rv := (fun T => T)) (wv := (fun _ => (jw_Tape_byteAt E q_this q_bytes c_size a_bytes))) h hQ hx hb hr rfl hlocks hS hP hD dX8_byteAt_26
    · replace h := jif_f hq9 h
      refine lv_aload_n hx hb dX8_byteAt_12 rfl (lv_at hl 0 rfl) ?_
      refine va_get (D := E.1) (ci := 8) (v := .ref q_bytes) (C := RX8) (T := TX8) (N := 2) hx hb hts hin8 hown hK.1 hP 0 rfl rfl 0 (by decide) hk_9 (fun _ h9 => h9) rfl dX8_byteAt_13 ?_
      refine lv_iload_n hx hb dX8_byteAt_16 rfl (lv_at hl 1 rfl) ?_
      obtain ⟨g17, h⟩ := jga_e h
      refine va_bald hx hb hK.1 hP 1 0 rfl rfl g17 dX8_byteAt_17 ?_
      refine lv_sipush (v := 255) hx hb dX8_byteAt_18 (by decide) ?_
      refine lv_iand hx hb dX8_byteAt_21 ?_
      refine lv_goto (tgt := 26) hx hb dX8_byteAt_22 (by decide) ?_
      exact j_iret (u := ((a_bytes x1.toNatClampNeg) &&& 255)) (rv := (fun T => T)) (wv := (fun _ => (jw_Tape_byteAt E q_this q_bytes c_size a_bytes))) h hQ hx hb hr rfl hlocks hS hP hD dX8_byteAt_26
abbrev jw_Room_isSmall (E : jE) : va_W := []
def jr_Room_isSmall : Room := { frames := 0, cells := 0, slots := 0, locals := 0 }
set_option maxHeartbeats 4000000 in
set_option maxRecDepth 100000 in
theorem jc_Room_isSmall (l : Launch) (E : jE) (x0 : Int32) (N : Nat) {T : Int32} (h : jf_Room_isSmall x0 = some T) : jMi l yX10_isSmall wsX10_isSmall jr_Room_isSmall E [.int x0] (jw_Room_isSmall E) (T) (jw_Room_isSmall E) := by
  refine jMi.begin (cc := cX10_isSmall) (maxL := 1) (ret := (some .boolean)) (by decide) rfl (Nat.le_of_ble_eq_true rfl) ?_
  intro p e s m args below meth c A ls Q hQ hx hb hr hml hown hlocks hts hK hA hP hD hS hl
  replace hown : s.vm.findClass RX10 = some m.cls := hown
  replace hl : lv_has ls 1 [(0, .int x0)] := hl
  unfold jf_Room_isSmall at h
  refine lv_iload_n hx hb dX10_isSmall_0 rfl (lv_at hl 0 rfl) ?_
  refine lv_bipush (v := 97) hx hb dX10_isSmall_1 (by decide) ?_
  refine lv_icmp_lt (tgt := 16) hx hb dX10_isSmall_3 (by decide) (fun hq3 => ?_) (fun hq3 => ?_)
  · replace h := jif_t hq3 h
    refine lv_iconst (v := 0) hx hb dX10_isSmall_16 (by decide) ?_
    exact j_iret (u := 0) (rv := (fun T => T)) (wv := (fun _ => (jw_Room_isSmall E))) h hQ hx hb hr jb_0 hlocks hS hP hD dX10_isSmall_17
  · replace h := jif_f hq3 h
    refine lv_iload_n hx hb dX10_isSmall_6 rfl (lv_at hl 0 rfl) ?_
    refine lv_bipush (v := 122) hx hb dX10_isSmall_7 (by decide) ?_
    refine lv_icmp_gt (tgt := 16) hx hb dX10_isSmall_9 (by decide) (fun hq9 => ?_) (fun hq9 => ?_)
    · replace h := jif_t hq9 h
      refine lv_iconst (v := 0) hx hb dX10_isSmall_16 (by decide) ?_
      exact j_iret (u := 0) (rv := (fun T => T)) (wv := (fun _ => (jw_Room_isSmall E))) h hQ hx hb hr jb_0 hlocks hS hP hD dX10_isSmall_17
    · replace h := jif_f hq9 h
      refine lv_iconst (v := 1) hx hb dX10_isSmall_12 (by decide) ?_
      refine lv_goto (tgt := 17) hx hb dX10_isSmall_13 (by decide) ?_
      exact j_iret (u := 1) (rv := (fun T => T)) (wv := (fun _ => (jw_Room_isSmall E))) h hQ hx hb hr jb_1 hlocks hS hP hD dX10_isSmall_17
abbrev jw_Book_takesByte (E : jE) : va_W := []
def jr_Book_takesByte : Room := { frames := 1, cells := 0, slots := 0, locals := 20 }
set_option maxHeartbeats 4000000 in
set_option maxRecDepth 100000 in
theorem jc_Book_takesByte (l : Launch) (E : jE) (x0 : Int32) (x1 : Int32) (N : Nat) {T : Int32} (h : jf_Book_takesByte x0 x1 = some T) : jMi l yX0_takesByte wsX0_takesByte jr_Book_takesByte E [.int x0, .int x1] (jw_Book_takesByte E) (T) (jw_Book_takesByte E) := by
  refine jMi.begin (cc := cX0_takesByte) (maxL := 2) (ret := (some .boolean)) (by decide) rfl (Nat.le_of_ble_eq_true rfl) ?_
  intro p e s m args below meth c A ls Q hQ hx hb hr hml hown hlocks hts hK hA hP hD hS hl
  replace hown : s.vm.findClass RX0 = some m.cls := hown
  replace hl : lv_has ls 2 [(0, .int x0), (1, .int x1)] := hl
  have kb15 : ∀ (H : Heap) (locs : List Loc) (ls : Array Slot), jf_Book_takesByte_b15 x1 = some T → va_P E.1 vwCl (jw_Book_takesByte E) H → va_D A (jw_Book_takesByte E) → va_S A s.heap H locs → lv_has ls 2 [(1, .int x1)] → W p l e jr_Book_takesByte s m args below meth c H locs 0 0 Q (F0 m 15 ls []) := by
    intro   H locs ls h hP hD hS hl
    unfold jf_Book_takesByte_b15 at h
    refine lv_iload_n hx hb dX0_takesByte_15 rfl (lv_at hl 0 rfl) ?_
    refine lv_bipush (v := 46) hx hb dX0_takesByte_16 (by decide) ?_
    refine lv_icmp_eq (tgt := 51) hx hb dX0_takesByte_18 (by decide) (fun hq18 => ?_) (fun hq18 => ?_)
    · replace h := jif_t hq18 h
      refine lv_iconst (v := 1) hx hb dX0_takesByte_51 (by decide) ?_
      refine lv_goto (tgt := 56) hx hb dX0_takesByte_52 (by decide) ?_
      exact j_iret (u := 1) (rv := (fun T => T)) (wv := (fun _ => (jw_Book_takesByte E))) h hQ hx hb hr jb_1 hlocks hS hP hD dX0_takesByte_56
    · replace h := jif_f hq18 h
      refine lv_iload_n hx hb dX0_takesByte_21 rfl (lv_at hl 0 rfl) ?_
      refine lv_bipush (v := 44) hx hb dX0_takesByte_22 (by decide) ?_
      refine lv_icmp_eq (tgt := 51) hx hb dX0_takesByte_24 (by decide) (fun hq24 => ?_) (fun hq24 => ?_)
      · replace h := jif_t hq24 h
        refine lv_iconst (v := 1) hx hb dX0_takesByte_51 (by decide) ?_
        refine lv_goto (tgt := 56) hx hb dX0_takesByte_52 (by decide) ?_
        exact j_iret (u := 1) (rv := (fun T => T)) (wv := (fun _ => (jw_Book_takesByte E))) h hQ hx hb hr jb_1 hlocks hS hP hD dX0_takesByte_56
      · replace h := jif_f hq24 h
        refine lv_iload_n hx hb dX0_takesByte_27 rfl (lv_at hl 0 rfl) ?_
        refine lv_bipush (v := 59) hx hb dX0_takesByte_28 (by decide) ?_
        refine lv_icmp_eq (tgt := 51) hx hb dX0_takesByte_30 (by decide) (fun hq30 => ?_) (fun hq30 => ?_)
        · replace h := jif_t hq30 h
          refine lv_iconst (v := 1) hx hb dX0_takesByte_51 (by decide) ?_
          refine lv_goto (tgt := 56) hx hb dX0_takesByte_52 (by decide) ?_
          exact j_iret (u := 1) (rv := (fun T => T)) (wv := (fun _ => (jw_Book_takesByte E))) h hQ hx hb hr jb_1 hlocks hS hP hD dX0_takesByte_56
        · replace h := jif_f hq30 h
          refine lv_iload_n hx hb dX0_takesByte_33 rfl (lv_at hl 0 rfl) ?_
          refine lv_bipush (v := 58) hx hb dX0_takesByte_34 (by decide) ?_
          refine lv_icmp_eq (tgt := 51) hx hb dX0_takesByte_36 (by decide) (fun hq36 => ?_) (fun hq36 => ?_)
          · replace h := jif_t hq36 h
            refine lv_iconst (v := 1) hx hb dX0_takesByte_51 (by decide) ?_
            refine lv_goto (tgt := 56) hx hb dX0_takesByte_52 (by decide) ?_
            exact j_iret (u := 1) (rv := (fun T => T)) (wv := (fun _ => (jw_Book_takesByte E))) h hQ hx hb hr jb_1 hlocks hS hP hD dX0_takesByte_56
          · replace h := jif_f hq36 h
            refine lv_iload_n hx hb dX0_takesByte_39 rfl (lv_at hl 0 rfl) ?_
            refine lv_bipush (v := 63) hx hb dX0_takesByte_40 (by decide) ?_
            refine lv_icmp_eq (tgt := 51) hx hb dX0_takesByte_42 (by decide) (fun hq42 => ?_) (fun hq42 => ?_)
            · replace h := jif_t hq42 h
              refine lv_iconst (v := 1) hx hb dX0_takesByte_51 (by decide) ?_
              refine lv_goto (tgt := 56) hx hb dX0_takesByte_52 (by decide) ?_
              exact j_iret (u := 1) (rv := (fun T => T)) (wv := (fun _ => (jw_Book_takesByte E))) h hQ hx hb hr jb_1 hlocks hS hP hD dX0_takesByte_56
            · replace h := jif_f hq42 h
              refine lv_iload_n hx hb dX0_takesByte_45 rfl (lv_at hl 0 rfl) ?_
              refine lv_bipush (v := 33) hx hb dX0_takesByte_46 (by decide) ?_
              refine lv_icmp_ne (tgt := 55) hx hb dX0_takesByte_48 (by decide) (fun hq48 => ?_) (fun hq48 => ?_)
              · replace h := jif_f hq48 h
                refine lv_iconst (v := 0) hx hb dX0_takesByte_55 (by decide) ?_
                exact j_iret (u := 0) (rv := (fun T => T)) (wv := (fun _ => (jw_Book_takesByte E))) h hQ hx hb hr jb_0 hlocks hS hP hD dX0_takesByte_56
              · replace h := jif_t hq48 h
                refine lv_iconst (v := 1) hx hb dX0_takesByte_51 (by decide) ?_
                refine lv_goto (tgt := 56) hx hb dX0_takesByte_52 (by decide) ?_
                exact j_iret (u := 1) (rv := (fun T => T)) (wv := (fun _ => (jw_Book_takesByte E))) h hQ hx hb hr jb_1 hlocks hS hP hD dX0_takesByte_56
  unfold jf_Book_takesByte at h
  refine lv_iload_n hx hb dX0_takesByte_0 rfl (lv_at hl 0 rfl) ?_
  refine lv_iconst (v := 3) hx hb dX0_takesByte_1 (by decide) ?_
  refine lv_icmp_eq (tgt := 15) hx hb dX0_takesByte_2 (by decide) (fun hq2 => ?_) (fun hq2 => ?_)
  · replace h := jif_t hq2 h
    exact kb15    _ _ _ h hP hD hS (lv_sub hl [1] rfl)
  · replace h := jif_f hq2 h
    refine lv_iload_n hx hb dX0_takesByte_5 rfl (lv_at hl 0 rfl) ?_
    refine lv_iconst (v := 4) hx hb dX0_takesByte_6 (by decide) ?_
    refine lv_icmp_eq (tgt := 15) hx hb dX0_takesByte_7 (by decide) (fun hq7 => ?_) (fun hq7 => ?_)
    · replace h := jif_t hq7 h
      exact kb15    _ _ _ h hP hD hS (lv_sub hl [1] rfl)
    · replace h := jif_f hq7 h
      refine lv_iload_n hx hb dX0_takesByte_10 rfl (lv_at hl 1 rfl) ?_
      obtain ⟨r11, hf11, h⟩ := jbd h
      refine j_callNi (own := RX0) (As := [.int x1]) (rest := []) hx hb hml hown hts hK hA hP hD hS (jc_Room_isSmall l E x1 N hf11) gX0_takesByte_X10_isSmall_n28 (by decide +kernel) (by decide +kernel) (by decide +kernel) rfl ⟨rfl, rfl⟩ 1 (by decide +kernel) rfl rfl [] [] [] rfl rfl rfl rfl rfl rfl rfl hl.1 rfl rfl dX0_takesByte_11 (fun H locs hP hD hS => ?_)
      replace hP : va_P E.1 vwCl (jw_Book_takesByte E) H := hP
      replace hD : va_D A (jw_Book_takesByte E) := hD
      obtain ⟨hz14, h⟩ := jgb_e h
      exact j_iret (u := r11) (rv := (fun T => T)) (wv := (fun _ => (jw_Book_takesByte E))) h hQ hx hb hr hz14 hlocks hS hP hD dX0_takesByte_14
abbrev jw_Room_tapeFits (E : jE) (q_this q_tape q_entries q_record q_page q_transcript q_planner q_runs q_chord q_outline q_tape_bytes : Nat) (c_tape_size : Int32) (a_tape_bytes : (Nat → Int32)) : va_W := [(q_this, .inr (10, [.ref q_tape, .ref q_entries, .ref q_record, .ref q_page, .ref q_transcript, .ref q_planner, .ref q_runs, .ref q_chord, .ref q_outline])), (q_tape, .inr (8, [.ref q_tape_bytes, .int c_tape_size])), (q_tape_bytes, .inl (E.2.1, 80, .inl a_tape_bytes))]
def jr_Room_tapeFits : Room := { frames := 2, cells := 0, slots := 0, locals := 41 }
set_option maxHeartbeats 4000000 in
set_option maxRecDepth 100000 in
theorem jc_Room_tapeFits (l : Launch) (E : jE) (q_this q_tape q_entries q_record q_page q_transcript q_planner q_runs q_chord q_outline q_tape_bytes : Nat) (c_tape_size : Int32) (a_tape_bytes : (Nat → Int32)) (x1 : Int32) (x2 : Int32) (N : Nat) {T : Int32} (h : jf_Room_tapeFits N x1 x2 c_tape_size a_tape_bytes = some T) : jMi l yX10_tapeFits wsX10_tapeFits jr_Room_tapeFits E [.ref q_this, .int x1, .int x2] (jw_Room_tapeFits E q_this q_tape q_entries q_record q_page q_transcript q_planner q_runs q_chord q_outline q_tape_bytes c_tape_size a_tape_bytes) (T) (jw_Room_tapeFits E q_this q_tape q_entries q_record q_page q_transcript q_planner q_runs q_chord q_outline q_tape_bytes c_tape_size a_tape_bytes) := by
  refine jMi.begin (cc := cX10_tapeFits) (maxL := 4) (ret := (some .boolean)) (by decide) rfl (Nat.le_of_ble_eq_true rfl) ?_
  intro p e s m args below meth c A ls Q hQ hx hb hr hml hown hlocks hts hK hA hP hD hS hl
  replace hown : s.vm.findClass RX10 = some m.cls := hown
  replace hl : lv_has ls 4 [(0, .ref q_this), (1, .int x1), (2, .int x2)] := hl
  have hin10 : ∀ w ∈ u_ws RX10 TX10 9, w ∈ wsX10_tapeFits := by decide +kernel
  have hk_10 := hts (.fieldLink RX10 10 "StenoRoom" "tape" "LStenoRoom$Tape;") (by decide +kernel)
  have kb2 : ∀ (n : Nat) (x3 : Int32) (H : Heap) (locs : List Loc) (ls : Array Slot), jf_Room_tapeFits_b2 x1 x2 c_tape_size a_tape_bytes n x3 = some T → va_P E.1 vwCl (jw_Room_tapeFits E q_this q_tape q_entries q_record q_page q_transcript q_planner q_runs q_chord q_outline q_tape_bytes c_tape_size a_tape_bytes) H → va_D A (jw_Room_tapeFits E q_this q_tape q_entries q_record q_page q_transcript q_planner q_runs q_chord q_outline q_tape_bytes c_tape_size a_tape_bytes) → va_S A s.heap H locs → lv_has ls 4 [(0, .ref q_this), (1, .int x1), (2, .int x2), (3, .int x3)] → W p l e jr_Room_tapeFits s m args below meth c H locs 0 0 Q (F0 m 2 ls []) := by
    intro n
    induction n with
    | zero => intro x3 H locs ls h; exact j_none (α := Int32) h
    | succ n ih =>
      intro x3 H locs ls h hP hD hS hl
      rw [jf_Room_tapeFits_b2] at h
      refine lv_iload_n hx hb dX10_tapeFits_2 rfl (lv_at hl 3 rfl) ?_
      refine lv_iload_n hx hb dX10_tapeFits_3 rfl (lv_at hl 2 rfl) ?_
      refine lv_icmp_ge (tgt := 30) hx hb dX10_tapeFits_4 (by decide) (fun hq4 => ?_) (fun hq4 => ?_)
      · replace h := jif_t hq4 h
        refine lv_iconst (v := 1) hx hb dX10_tapeFits_30 (by decide) ?_
        exact j_iret (u := 1) (rv := (fun T => T)) (wv := (fun _ => (jw_Room_tapeFits E q_this q_tape q_entries q_record q_page q_transcript q_planner q_runs q_chord q_outline q_tape_bytes c_tape_size a_tape_bytes))) h hQ hx hb hr jb_1 hlocks hS hP hD dX10_tapeFits_31
      · replace h := jif_f hq4 h
        refine lv_iload_n hx hb dX10_tapeFits_7 rfl (lv_at hl 1 rfl) ?_
        refine lv_aload_n hx hb dX10_tapeFits_8 rfl (lv_at hl 0 rfl) ?_
        refine va_get (D := E.1) (ci := 10) (v := .ref q_tape) (C := RX10) (T := TX10) (N := 9) hx hb hts hin10 hown hK.1 hP 0 rfl rfl 0 (by decide) hk_10 (fun _ h9 => h9) rfl dX10_tapeFits_9 ?_
        refine lv_iload_n hx hb dX10_tapeFits_12 rfl (lv_at hl 3 rfl) ?_
        obtain ⟨r13, hf13, h⟩ := jbd h
        refine j_callVi (own := RX10) (As := [.int x3]) (rest := [.int x1]) hx hb hml hown hts hK hA hP hD hS (jc_Tape_byteAt l E q_tape q_tape_bytes c_tape_size a_tape_bytes x3 N hf13) gX10_tapeFits_X8_byteAt rfl ⟨rfl, rfl⟩ 1 (by decide +kernel) rfl rfl 1 8 rfl rfl [1, 2] [0] [0, 1, 2] rfl rfl rfl rfl rfl rfl rfl hl.1 rfl rfl dX10_tapeFits_13 (fun H locs hP hD hS => ?_)
        replace hP : va_P E.1 vwCl (jw_Room_tapeFits E q_this q_tape q_entries q_record q_page q_transcript q_planner q_runs q_chord q_outline q_tape_bytes c_tape_size a_tape_bytes) H := hP
        replace hD : va_D A (jw_Room_tapeFits E q_this q_tape q_entries q_record q_page q_transcript q_planner q_runs q_chord q_outline q_tape_bytes c_tape_size a_tape_bytes) := hD
        obtain ⟨r16, hf16, h⟩ := jbd h
        refine j_callSi (own := RX10) (As := [.int x1, .int r13]) (rest := []) hx hb hml hown hts hK hA hP hD hS (jc_Book_takesByte l E x1 r13 N hf16) gX10_tapeFits_X0_takesByte rfl ⟨rfl, rfl⟩ 2 (by decide +kernel) rfl rfl [] [0, 1, 2] [0, 1, 2] rfl rfl rfl rfl rfl rfl rfl hl.1 rfl rfl dX10_tapeFits_16 (fun H locs hP hD hS => ?_)
        replace hP : va_P E.1 vwCl (jw_Room_tapeFits E q_this q_tape q_entries q_record q_page q_transcript q_planner q_runs q_chord q_outline q_tape_bytes c_tape_size a_tape_bytes) H := hP
        replace hD : va_D A (jw_Room_tapeFits E q_this q_tape q_entries q_record q_page q_transcript q_planner q_runs q_chord q_outline q_tape_bytes c_tape_size a_tape_bytes) := hD
        refine lv_if_ne (tgt := 24) hx hb dX10_tapeFits_19 (by decide) (fun hq19 => ?_) (fun hq19 => ?_)
        · replace h := jif_f hq19 h
          refine lv_iinc (v := (x3 + 1)) (lv' := [(3, .int (x3 + 1)), (0, .ref q_this), (1, .int x1), (2, .int x2)]) hx hb dX10_tapeFits_24 hl (k := 3) rfl rfl (by decide) rfl (fun ls hl => ?_)
          refine lv_goto (tgt := 2) hx hb dX10_tapeFits_27 (by decide) ?_
          exact ih (x3 + 1) _ _ _ h hP hD hS (lv_sub hl [1, 2, 3, 0] rfl)
        · replace h := jif_t hq19 h
          refine lv_iconst (v := 0) hx hb dX10_tapeFits_22 (by decide) ?_
          exact j_iret (u := 0) (rv := (fun T => T)) (wv := (fun _ => (jw_Room_tapeFits E q_this q_tape q_entries q_record q_page q_transcript q_planner q_runs q_chord q_outline q_tape_bytes c_tape_size a_tape_bytes))) h hQ hx hb hr jb_0 hlocks hS hP hD dX10_tapeFits_23
  unfold jf_Room_tapeFits at h
  refine lv_iconst (v := 0) hx hb dX10_tapeFits_0 (by decide) ?_
  refine lv_istore_n (lv' := [(3, .int 0), (0, .ref q_this), (1, .int x1), (2, .int x2)]) hx hb dX10_tapeFits_1 rfl hl (by decide) rfl (fun ls hl => ?_)
  exact kb2  N 0 _ _ _ h hP hD hS (lv_sub hl [1, 2, 3, 0] rfl)
abbrev jw_Tape_wipe (E : jE) (q_this q_bytes : Nat) (c_size : Int32) : va_W := [(q_this, .inr (8, [.ref q_bytes, .int c_size]))]
def jr_Tape_wipe : Room := { frames := 0, cells := 0, slots := 0, locals := 0 }
set_option maxHeartbeats 4000000 in
set_option maxRecDepth 100000 in
theorem jc_Tape_wipe (l : Launch) (E : jE) (q_this q_bytes : Nat) (c_size : Int32) (N : Nat) {T : Int32} (h : jf_Tape_wipe c_size = some T) : jMv l yX8_wipe wsX8_wipe jr_Tape_wipe E [.ref q_this] (jw_Tape_wipe E q_this q_bytes c_size) (jw_Tape_wipe E q_this q_bytes T) := by
  refine jMv.begin (cc := cX8_wipe) (maxL := 1) (ret := none) (by decide) rfl (Nat.le_of_ble_eq_true rfl) ?_
  intro p e s m args below meth c A ls Q hQ hx hb hr hml hown hlocks hts hK hA hP hD hS hl
  replace hown : s.vm.findClass RX8 = some m.cls := hown
  replace hl : lv_has ls 1 [(0, .ref q_this)] := hl
  have hin8 : ∀ w ∈ u_ws RX8 TX8 2, w ∈ wsX8_wipe := by decide +kernel
  have hk_15 := hts (.fieldLink RX8 15 "StenoRoom$Tape" "size" "I") (by decide +kernel)
  unfold jf_Tape_wipe at h
  refine lv_aload_n hx hb dX8_wipe_0 rfl (lv_at hl 0 rfl) ?_
  refine lv_iconst (v := 0) hx hb dX8_wipe_1 (by decide) ?_
  refine va_put (D := E.1) (ci := 8) (v := .int 0) (ty := .int) (C := RX8) (T := TX8) (N := 2) hx hb hts hin8 tyX8 tyX8_ok nmX8 hown hK.1 hP hD hS 0 rfl rfl 1 (by decide) hk_15 (fun _ h9 => h9) rfl (by decide +kernel) rfl rfl (Nat.le_of_ble_eq_true rfl) dX8_wipe_2 (fun H locs hP hD hS => ?_)
  replace hP : va_P E.1 vwCl (jw_Tape_wipe E q_this q_bytes 0) H := hP
  replace hD : va_D A (jw_Tape_wipe E q_this q_bytes 0) := hD
  exact j_vret (u := 0) (wv := (fun T => (jw_Tape_wipe E q_this q_bytes T))) h hQ hx hb hr hlocks hS hP hD dX8_wipe_5
abbrev jw_Book_size (E : jE) (q_this q_kinds q_strokeCounts q_strokes q_lengths q_letters : Nat) (c_size : Int32) : va_W := [(q_this, .inr (0, [.ref q_kinds, .ref q_strokeCounts, .ref q_strokes, .ref q_lengths, .ref q_letters, .int c_size]))]
def jr_Book_size : Room := { frames := 0, cells := 0, slots := 0, locals := 0 }
set_option maxHeartbeats 4000000 in
set_option maxRecDepth 100000 in
theorem jc_Book_size (l : Launch) (E : jE) (q_this q_kinds q_strokeCounts q_strokes q_lengths q_letters : Nat) (c_size : Int32) (N : Nat) {T : Int32} (h : jf_Book_size c_size = some T) : jMi l yX0_size wsX0_size jr_Book_size E [.ref q_this] (jw_Book_size E q_this q_kinds q_strokeCounts q_strokes q_lengths q_letters c_size) (T) (jw_Book_size E q_this q_kinds q_strokeCounts q_strokes q_lengths q_letters c_size) := by
  refine jMi.begin (cc := cX0_size) (maxL := 1) (ret := (some .int)) (by decide) rfl (Nat.le_of_ble_eq_true rfl) ?_
  intro p e s m args below meth c A ls Q hQ hx hb hr hml hown hlocks hts hK hA hP hD hS hl
  replace hown : s.vm.findClass RX0 = some m.cls := hown
  replace hl : lv_has ls 1 [(0, .ref q_this)] := hl
  have hin0 : ∀ w ∈ u_ws RX0 TX0 6, w ∈ wsX0_size := by decide +kernel
  have hk_32 := hts (.fieldLink RX0 32 "StenoRoom$Book" "size" "I") (by decide +kernel)
  unfold jf_Book_size at h
  refine lv_aload_n hx hb dX0_size_0 rfl (lv_at hl 0 rfl) ?_
  refine va_get (D := E.1) (ci := 0) (v := .int c_size) (C := RX0) (T := TX0) (N := 6) hx hb hts hin0 hown hK.1 hP 0 rfl rfl 5 (by decide) hk_32 (fun _ h9 => h9) rfl dX0_size_1 ?_
  exact j_iret (u := c_size) (rv := (fun T => T)) (wv := (fun _ => (jw_Book_size E q_this q_kinds q_strokeCounts q_strokes q_lengths q_letters c_size))) h hQ hx hb hr rfl hlocks hS hP hD dX0_size_4
abbrev jw_Book_add (E : jE) (q_this q_kinds q_strokeCounts q_strokes q_lengths q_letters q_arg4 q_arg4_bytes q_arg1 : Nat) (n_arg1 : Nat) (c_size : Int32) (c_arg4_size : Int32) (a_arg1 : (Nat → Int32)) (a_arg4_bytes : (Nat → Int32)) (a_kinds : (Nat → Int32)) (a_lengths : (Nat → Int32)) (a_letters : (Nat → Int32)) (a_strokeCounts : (Nat → Int32)) (a_strokes : (Nat → Int32)) : va_W := [(q_this, .inr (0, [.ref q_kinds, .ref q_strokeCounts, .ref q_strokes, .ref q_lengths, .ref q_letters, .int c_size])), (q_arg4, .inr (8, [.ref q_arg4_bytes, .int c_arg4_size])), (q_arg1, .inl (E.2.2.1, n_arg1, .inl a_arg1)), (q_arg4_bytes, .inl (E.2.1, 80, .inl a_arg4_bytes)), (q_kinds, .inl (E.2.2.1, 60, .inl a_kinds)), (q_lengths, .inl (E.2.2.1, 60, .inl a_lengths)), (q_letters, .inl (E.2.1, 960, .inl a_letters)), (q_strokeCounts, .inl (E.2.2.1, 60, .inl a_strokeCounts)), (q_strokes, .inl (E.2.2.1, 300, .inl a_strokes))]
def jr_Book_add : Room := { frames := 1, cells := 0, slots := 0, locals := 21 }
set_option maxHeartbeats 4000000 in
set_option maxRecDepth 100000 in
theorem jc_Book_add (l : Launch) (E : jE) (q_this q_kinds q_strokeCounts q_strokes q_lengths q_letters q_arg4 q_arg4_bytes q_arg1 : Nat) (n_arg1 : Nat) (c_size : Int32) (c_arg4_size : Int32) (a_arg1 : (Nat → Int32)) (a_arg4_bytes : (Nat → Int32)) (a_kinds : (Nat → Int32)) (a_lengths : (Nat → Int32)) (a_letters : (Nat → Int32)) (a_strokeCounts : (Nat → Int32)) (a_strokes : (Nat → Int32)) (x2 : Int32) (x3 : Int32) (x5 : Int32) (N : Nat) {T : Int32 × (Nat → Int32) × (Nat → Int32) × (Nat → Int32) × (Nat → Int32) × (Nat → Int32)} (h : jf_Book_add N x2 x3 x5 n_arg1 c_arg4_size a_arg1 a_arg4_bytes c_size a_kinds a_lengths a_letters a_strokeCounts a_strokes = some T) : jMv l yX0_add wsX0_add jr_Book_add E [.ref q_this, .ref q_arg1, .int x2, .int x3, .ref q_arg4, .int x5] (jw_Book_add E q_this q_kinds q_strokeCounts q_strokes q_lengths q_letters q_arg4 q_arg4_bytes q_arg1 n_arg1 c_size c_arg4_size a_arg1 a_arg4_bytes a_kinds a_lengths a_letters a_strokeCounts a_strokes) (jw_Book_add E q_this q_kinds q_strokeCounts q_strokes q_lengths q_letters q_arg4 q_arg4_bytes q_arg1 n_arg1 T.1 c_arg4_size a_arg1 a_arg4_bytes T.2.1 T.2.2.1 T.2.2.2.1 T.2.2.2.2.1 T.2.2.2.2.2) := by
  refine jMv.begin (cc := cX0_add) (maxL := 7) (ret := none) (by decide) rfl (Nat.le_of_ble_eq_true rfl) ?_
  intro p e s m args below meth c A ls Q hQ hx hb hr hml hown hlocks hts hK hA hP hD hS hl
  replace hown : s.vm.findClass RX0 = some m.cls := hown
  replace hl : lv_has ls 7 [(0, .ref q_this), (1, .ref q_arg1), (2, .int x2), (3, .int x3), (4, .ref q_arg4), (5, .int x5)] := hl
  have hin0 : ∀ w ∈ u_ws RX0 TX0 6, w ∈ wsX0_add := by decide +kernel
  have hk_9 := hts (.fieldLink RX0 9 "StenoRoom$Book" "kinds" "[I") (by decide +kernel)
  have hk_15 := hts (.fieldLink RX0 15 "StenoRoom$Book" "strokeCounts" "[I") (by decide +kernel)
  have hk_18 := hts (.fieldLink RX0 18 "StenoRoom$Book" "strokes" "[I") (by decide +kernel)
  have hk_21 := hts (.fieldLink RX0 21 "StenoRoom$Book" "lengths" "[I") (by decide +kernel)
  have hk_24 := hts (.fieldLink RX0 24 "StenoRoom$Book" "letters" "[B") (by decide +kernel)
  have hk_32 := hts (.fieldLink RX0 32 "StenoRoom$Book" "size" "I") (by decide +kernel)
  have kb100 : ∀ (c_size : Int32) (a_kinds : (Nat → Int32)) (a_lengths : (Nat → Int32)) (a_letters : (Nat → Int32)) (a_strokeCounts : (Nat → Int32)) (a_strokes : (Nat → Int32)) (H : Heap) (locs : List Loc) (ls : Array Slot), jf_Book_add_b100 x2 x3 x5 c_size a_kinds a_lengths a_letters a_strokeCounts a_strokes = some T → va_P E.1 vwCl (jw_Book_add E q_this q_kinds q_strokeCounts q_strokes q_lengths q_letters q_arg4 q_arg4_bytes q_arg1 n_arg1 c_size c_arg4_size a_arg1 a_arg4_bytes a_kinds a_lengths a_letters a_strokeCounts a_strokes) H → va_D A (jw_Book_add E q_this q_kinds q_strokeCounts q_strokes q_lengths q_letters q_arg4 q_arg4_bytes q_arg1 n_arg1 c_size c_arg4_size a_arg1 a_arg4_bytes a_kinds a_lengths a_letters a_strokeCounts a_strokes) → va_S A s.heap H locs → lv_has ls 7 [(0, .ref q_this), (1, .ref q_arg1), (2, .int x2), (3, .int x3), (4, .ref q_arg4), (5, .int x5)] → W p l e jr_Book_add s m args below meth c H locs 0 0 Q (F0 m 100 ls []) := by
    intro  c_size a_kinds a_lengths a_letters a_strokeCounts a_strokes H locs ls h hP hD hS hl
    unfold jf_Book_add_b100 at h
    refine lv_aload_n hx hb dX0_add_100 rfl (lv_at hl 0 rfl) ?_
    refine va_get (D := E.1) (ci := 0) (v := .ref q_kinds) (C := RX0) (T := TX0) (N := 6) hx hb hts hin0 hown hK.1 hP 0 rfl rfl 0 (by decide) hk_9 (fun _ h9 => h9) rfl dX0_add_101 ?_
    refine lv_aload_n hx hb dX0_add_104 rfl (lv_at hl 0 rfl) ?_
    refine va_get (D := E.1) (ci := 0) (v := .int c_size) (C := RX0) (T := TX0) (N := 6) hx hb hts hin0 hown hK.1 hP 0 rfl rfl 5 (by decide) hk_32 (fun _ h9 => h9) rfl dX0_add_105 ?_
    refine lv_iload_n hx hb dX0_add_108 rfl (lv_at hl 3 rfl) ?_
    obtain ⟨g109, h⟩ := jga_e h
    refine va_iast hx hb hK.1 hP hD hS 4 1 rfl rfl g109 dX0_add_109 (fun H locs hP hD hS => ?_)
    replace hP : va_P E.1 vwCl (jw_Book_add E q_this q_kinds q_strokeCounts q_strokes q_lengths q_letters q_arg4 q_arg4_bytes q_arg1 n_arg1 c_size c_arg4_size a_arg1 a_arg4_bytes (upd a_kinds c_size.toNatClampNeg x3) a_lengths a_letters a_strokeCounts a_strokes) H := hP
    replace hD : va_D A (jw_Book_add E q_this q_kinds q_strokeCounts q_strokes q_lengths q_letters q_arg4 q_arg4_bytes q_arg1 n_arg1 c_size c_arg4_size a_arg1 a_arg4_bytes (upd a_kinds c_size.toNatClampNeg x3) a_lengths a_letters a_strokeCounts a_strokes) := hD
    refine lv_aload_n hx hb dX0_add_110 rfl (lv_at hl 0 rfl) ?_
    refine va_get (D := E.1) (ci := 0) (v := .ref q_strokeCounts) (C := RX0) (T := TX0) (N := 6) hx hb hts hin0 hown hK.1 hP 0 rfl rfl 1 (by decide) hk_15 (fun _ h9 => h9) rfl dX0_add_111 ?_
    refine lv_aload_n hx hb dX0_add_114 rfl (lv_at hl 0 rfl) ?_
    refine va_get (D := E.1) (ci := 0) (v := .int c_size) (C := RX0) (T := TX0) (N := 6) hx hb hts hin0 hown hK.1 hP 0 rfl rfl 5 (by decide) hk_32 (fun _ h9 => h9) rfl dX0_add_115 ?_
    refine lv_iload_n hx hb dX0_add_118 rfl (lv_at hl 2 rfl) ?_
    obtain ⟨g119, h⟩ := jga_e h
    refine va_iast hx hb hK.1 hP hD hS 7 1 rfl rfl g119 dX0_add_119 (fun H locs hP hD hS => ?_)
    replace hP : va_P E.1 vwCl (jw_Book_add E q_this q_kinds q_strokeCounts q_strokes q_lengths q_letters q_arg4 q_arg4_bytes q_arg1 n_arg1 c_size c_arg4_size a_arg1 a_arg4_bytes (upd a_kinds c_size.toNatClampNeg x3) a_lengths a_letters (upd a_strokeCounts c_size.toNatClampNeg x2) a_strokes) H := hP
    replace hD : va_D A (jw_Book_add E q_this q_kinds q_strokeCounts q_strokes q_lengths q_letters q_arg4 q_arg4_bytes q_arg1 n_arg1 c_size c_arg4_size a_arg1 a_arg4_bytes (upd a_kinds c_size.toNatClampNeg x3) a_lengths a_letters (upd a_strokeCounts c_size.toNatClampNeg x2) a_strokes) := hD
    refine lv_aload_n hx hb dX0_add_120 rfl (lv_at hl 0 rfl) ?_
    refine va_get (D := E.1) (ci := 0) (v := .ref q_lengths) (C := RX0) (T := TX0) (N := 6) hx hb hts hin0 hown hK.1 hP 0 rfl rfl 3 (by decide) hk_21 (fun _ h9 => h9) rfl dX0_add_121 ?_
    refine lv_aload_n hx hb dX0_add_124 rfl (lv_at hl 0 rfl) ?_
    refine va_get (D := E.1) (ci := 0) (v := .int c_size) (C := RX0) (T := TX0) (N := 6) hx hb hts hin0 hown hK.1 hP 0 rfl rfl 5 (by decide) hk_32 (fun _ h9 => h9) rfl dX0_add_125 ?_
    refine lv_iload hx hb dX0_add_128 (lv_at hl 5 rfl) ?_
    obtain ⟨g130, h⟩ := jga_e h
    refine va_iast hx hb hK.1 hP hD hS 5 1 rfl rfl g130 dX0_add_130 (fun H locs hP hD hS => ?_)
    replace hP : va_P E.1 vwCl (jw_Book_add E q_this q_kinds q_strokeCounts q_strokes q_lengths q_letters q_arg4 q_arg4_bytes q_arg1 n_arg1 c_size c_arg4_size a_arg1 a_arg4_bytes (upd a_kinds c_size.toNatClampNeg x3) (upd a_lengths c_size.toNatClampNeg x5) a_letters (upd a_strokeCounts c_size.toNatClampNeg x2) a_strokes) H := hP
    replace hD : va_D A (jw_Book_add E q_this q_kinds q_strokeCounts q_strokes q_lengths q_letters q_arg4 q_arg4_bytes q_arg1 n_arg1 c_size c_arg4_size a_arg1 a_arg4_bytes (upd a_kinds c_size.toNatClampNeg x3) (upd a_lengths c_size.toNatClampNeg x5) a_letters (upd a_strokeCounts c_size.toNatClampNeg x2) a_strokes) := hD
    refine lv_aload_n hx hb dX0_add_131 rfl (lv_at hl 0 rfl) ?_
    refine lv_dup hx hb dX0_add_132 rfl ?_
    refine va_get (D := E.1) (ci := 0) (v := .int c_size) (C := RX0) (T := TX0) (N := 6) hx hb hts hin0 hown hK.1 hP 0 rfl rfl 5 (by decide) hk_32 (fun _ h9 => h9) rfl dX0_add_133 ?_
    refine lv_iconst (v := 1) hx hb dX0_add_136 (by decide) ?_
    refine lv_iadd hx hb dX0_add_137 ?_
    refine va_put (D := E.1) (ci := 0) (v := .int (c_size + 1)) (ty := .int) (C := RX0) (T := TX0) (N := 6) hx hb hts hin0 tyX0 tyX0_ok nmX0 hown hK.1 hP hD hS 0 rfl rfl 5 (by decide) hk_32 (fun _ h9 => h9) rfl (by decide +kernel) rfl rfl (Nat.le_of_ble_eq_true rfl) dX0_add_138 (fun H locs hP hD hS => ?_)
    replace hP : va_P E.1 vwCl (jw_Book_add E q_this q_kinds q_strokeCounts q_strokes q_lengths q_letters q_arg4 q_arg4_bytes q_arg1 n_arg1 (c_size + 1) c_arg4_size a_arg1 a_arg4_bytes (upd a_kinds c_size.toNatClampNeg x3) (upd a_lengths c_size.toNatClampNeg x5) a_letters (upd a_strokeCounts c_size.toNatClampNeg x2) a_strokes) H := hP
    replace hD : va_D A (jw_Book_add E q_this q_kinds q_strokeCounts q_strokes q_lengths q_letters q_arg4 q_arg4_bytes q_arg1 n_arg1 (c_size + 1) c_arg4_size a_arg1 a_arg4_bytes (upd a_kinds c_size.toNatClampNeg x3) (upd a_lengths c_size.toNatClampNeg x5) a_letters (upd a_strokeCounts c_size.toNatClampNeg x2) a_strokes) := hD
    exact j_vret (u := ((c_size + 1), (upd a_kinds c_size.toNatClampNeg x3), (upd a_lengths c_size.toNatClampNeg x5), a_letters, (upd a_strokeCounts c_size.toNatClampNeg x2), a_strokes)) (wv := (fun T => (jw_Book_add E q_this q_kinds q_strokeCounts q_strokes q_lengths q_letters q_arg4 q_arg4_bytes q_arg1 n_arg1 T.1 c_arg4_size a_arg1 a_arg4_bytes T.2.1 T.2.2.1 T.2.2.2.1 T.2.2.2.2.1 T.2.2.2.2.2))) h hQ hx hb hr hlocks hS hP hD dX0_add_141
  have kb64 : ∀ (n : Nat) (x6 : Int32) (c_size : Int32) (a_kinds : (Nat → Int32)) (a_lengths : (Nat → Int32)) (a_letters : (Nat → Int32)) (a_strokeCounts : (Nat → Int32)) (a_strokes : (Nat → Int32)) (H : Heap) (locs : List Loc) (ls : Array Slot), jf_Book_add_b64 x2 x3 x5 c_arg4_size a_arg4_bytes n x6 c_size a_kinds a_lengths a_letters a_strokeCounts a_strokes = some T → va_P E.1 vwCl (jw_Book_add E q_this q_kinds q_strokeCounts q_strokes q_lengths q_letters q_arg4 q_arg4_bytes q_arg1 n_arg1 c_size c_arg4_size a_arg1 a_arg4_bytes a_kinds a_lengths a_letters a_strokeCounts a_strokes) H → va_D A (jw_Book_add E q_this q_kinds q_strokeCounts q_strokes q_lengths q_letters q_arg4 q_arg4_bytes q_arg1 n_arg1 c_size c_arg4_size a_arg1 a_arg4_bytes a_kinds a_lengths a_letters a_strokeCounts a_strokes) → va_S A s.heap H locs → lv_has ls 7 [(0, .ref q_this), (1, .ref q_arg1), (2, .int x2), (3, .int x3), (4, .ref q_arg4), (5, .int x5), (6, .int x6)] → W p l e jr_Book_add s m args below meth c H locs 0 0 Q (F0 m 64 ls []) := by
    intro n
    induction n with
    | zero => intro x6 c_size a_kinds a_lengths a_letters a_strokeCounts a_strokes H locs ls h; exact j_none (α := Int32 × (Nat → Int32) × (Nat → Int32) × (Nat → Int32) × (Nat → Int32) × (Nat → Int32)) h
    | succ n ih =>
      intro x6 c_size a_kinds a_lengths a_letters a_strokeCounts a_strokes H locs ls h hP hD hS hl
      rw [jf_Book_add_b64] at h
      refine lv_iload hx hb dX0_add_64 (lv_at hl 6 rfl) ?_
      refine lv_iload hx hb dX0_add_66 (lv_at hl 5 rfl) ?_
      refine lv_icmp_ge (tgt := 100) hx hb dX0_add_68 (by decide) (fun hq68 => ?_) (fun hq68 => ?_)
      · replace h := jif_t hq68 h
        exact kb100   c_size a_kinds a_lengths a_letters a_strokeCounts a_strokes _ _ _ h hP hD hS (lv_sub hl [0, 1, 2, 3, 4, 5] rfl)
      · replace h := jif_f hq68 h
        refine lv_aload_n hx hb dX0_add_71 rfl (lv_at hl 0 rfl) ?_
        refine va_get (D := E.1) (ci := 0) (v := .ref q_letters) (C := RX0) (T := TX0) (N := 6) hx hb hts hin0 hown hK.1 hP 0 rfl rfl 4 (by decide) hk_24 (fun _ h9 => h9) rfl dX0_add_72 ?_
        refine lv_aload_n hx hb dX0_add_75 rfl (lv_at hl 0 rfl) ?_
        refine va_get (D := E.1) (ci := 0) (v := .int c_size) (C := RX0) (T := TX0) (N := 6) hx hb hts hin0 hown hK.1 hP 0 rfl rfl 5 (by decide) hk_32 (fun _ h9 => h9) rfl dX0_add_76 ?_
        refine lv_bipush (v := 16) hx hb dX0_add_79 (by decide) ?_
        refine lv_imul hx hb dX0_add_81 ?_
        refine lv_iload hx hb dX0_add_82 (lv_at hl 6 rfl) ?_
        refine lv_iadd hx hb dX0_add_84 ?_
        refine lv_aload hx hb dX0_add_85 (lv_at hl 4 rfl) ?_
        refine lv_iload hx hb dX0_add_87 (lv_at hl 6 rfl) ?_
        obtain ⟨r89, hf89, h⟩ := jbd h
        refine j_callVi (own := RX0) (As := [.int x6]) (rest := [.int ((c_size * 16) + x6), .ref q_letters]) hx hb hml hown hts hK hA hP hD hS (jc_Tape_byteAt l E q_arg4 q_arg4_bytes c_arg4_size a_arg4_bytes x6 N hf89) gX0_add_X8_byteAt rfl ⟨rfl, rfl⟩ 1 (by decide +kernel) rfl rfl 1 8 rfl rfl [1, 3] [0, 2, 4, 5, 6, 7, 8] [0, 7, 1, 8, 2, 3, 4, 5, 6] rfl rfl rfl rfl rfl rfl rfl hl.1 rfl rfl dX0_add_89 (fun H locs hP hD hS => ?_)
        replace hP : va_P E.1 vwCl (jw_Book_add E q_this q_kinds q_strokeCounts q_strokes q_lengths q_letters q_arg4 q_arg4_bytes q_arg1 n_arg1 c_size c_arg4_size a_arg1 a_arg4_bytes a_kinds a_lengths a_letters a_strokeCounts a_strokes) H := hP
        replace hD : va_D A (jw_Book_add E q_this q_kinds q_strokeCounts q_strokes q_lengths q_letters q_arg4 q_arg4_bytes q_arg1 n_arg1 c_size c_arg4_size a_arg1 a_arg4_bytes a_kinds a_lengths a_letters a_strokeCounts a_strokes) := hD
        refine lv_i2b (v := r89.toInt8.toInt32) hx hb dX0_add_92 rfl ?_
        obtain ⟨g93, h⟩ := jga_e h
        refine va_bast hx hb hK.1 hP hD hS 6 0 rfl rfl g93 dX0_add_93 (fun H locs hP hD hS => ?_)
        replace hP : va_P E.1 vwCl (jw_Book_add E q_this q_kinds q_strokeCounts q_strokes q_lengths q_letters q_arg4 q_arg4_bytes q_arg1 n_arg1 c_size c_arg4_size a_arg1 a_arg4_bytes a_kinds a_lengths (upd a_letters ((c_size * 16) + x6).toNatClampNeg (vp_nar .byte r89.toInt8.toInt32)) a_strokeCounts a_strokes) H := hP
        replace hD : va_D A (jw_Book_add E q_this q_kinds q_strokeCounts q_strokes q_lengths q_letters q_arg4 q_arg4_bytes q_arg1 n_arg1 c_size c_arg4_size a_arg1 a_arg4_bytes a_kinds a_lengths (upd a_letters ((c_size * 16) + x6).toNatClampNeg (vp_nar .byte r89.toInt8.toInt32)) a_strokeCounts a_strokes) := hD
        refine lv_iinc (v := (x6 + 1)) (lv' := [(6, .int (x6 + 1)), (0, .ref q_this), (1, .ref q_arg1), (2, .int x2), (3, .int x3), (4, .ref q_arg4), (5, .int x5)]) hx hb dX0_add_94 hl (k := 6) rfl rfl (by decide) rfl (fun ls hl => ?_)
        refine lv_goto (tgt := 64) hx hb dX0_add_97 (by decide) ?_
        exact ih (x6 + 1) c_size a_kinds a_lengths (upd a_letters ((c_size * 16) + x6).toNatClampNeg (vp_nar .byte r89.toInt8.toInt32)) a_strokeCounts a_strokes _ _ _ h hP hD hS (lv_sub hl [1, 2, 3, 4, 5, 6, 0] rfl)
  have kb61 : ∀ (c_size : Int32) (a_kinds : (Nat → Int32)) (a_lengths : (Nat → Int32)) (a_letters : (Nat → Int32)) (a_strokeCounts : (Nat → Int32)) (a_strokes : (Nat → Int32)) (H : Heap) (locs : List Loc) (ls : Array Slot), jf_Book_add_b61 N x2 x3 x5 c_arg4_size a_arg4_bytes c_size a_kinds a_lengths a_letters a_strokeCounts a_strokes = some T → va_P E.1 vwCl (jw_Book_add E q_this q_kinds q_strokeCounts q_strokes q_lengths q_letters q_arg4 q_arg4_bytes q_arg1 n_arg1 c_size c_arg4_size a_arg1 a_arg4_bytes a_kinds a_lengths a_letters a_strokeCounts a_strokes) H → va_D A (jw_Book_add E q_this q_kinds q_strokeCounts q_strokes q_lengths q_letters q_arg4 q_arg4_bytes q_arg1 n_arg1 c_size c_arg4_size a_arg1 a_arg4_bytes a_kinds a_lengths a_letters a_strokeCounts a_strokes) → va_S A s.heap H locs → lv_has ls 7 [(0, .ref q_this), (1, .ref q_arg1), (2, .int x2), (3, .int x3), (4, .ref q_arg4), (5, .int x5)] → W p l e jr_Book_add s m args below meth c H locs 0 0 Q (F0 m 61 ls []) := by
    intro  c_size a_kinds a_lengths a_letters a_strokeCounts a_strokes H locs ls h hP hD hS hl
    unfold jf_Book_add_b61 at h
    refine lv_iconst (v := 0) hx hb dX0_add_61 (by decide) ?_
    refine lv_istore (lv' := [(6, .int 0), (0, .ref q_this), (1, .ref q_arg1), (2, .int x2), (3, .int x3), (4, .ref q_arg4), (5, .int x5)]) hx hb dX0_add_62 hl (by decide) rfl (fun ls hl => ?_)
    exact kb64  N 0 c_size a_kinds a_lengths a_letters a_strokeCounts a_strokes _ _ _ h hP hD hS (lv_sub hl [1, 2, 3, 4, 5, 6, 0] rfl)
  have kb31 : ∀ (n : Nat) (x6 : Int32) (c_size : Int32) (a_kinds : (Nat → Int32)) (a_lengths : (Nat → Int32)) (a_letters : (Nat → Int32)) (a_strokeCounts : (Nat → Int32)) (a_strokes : (Nat → Int32)) (H : Heap) (locs : List Loc) (ls : Array Slot), jf_Book_add_b31 N x2 x3 x5 n_arg1 c_arg4_size a_arg1 a_arg4_bytes n x6 c_size a_kinds a_lengths a_letters a_strokeCounts a_strokes = some T → va_P E.1 vwCl (jw_Book_add E q_this q_kinds q_strokeCounts q_strokes q_lengths q_letters q_arg4 q_arg4_bytes q_arg1 n_arg1 c_size c_arg4_size a_arg1 a_arg4_bytes a_kinds a_lengths a_letters a_strokeCounts a_strokes) H → va_D A (jw_Book_add E q_this q_kinds q_strokeCounts q_strokes q_lengths q_letters q_arg4 q_arg4_bytes q_arg1 n_arg1 c_size c_arg4_size a_arg1 a_arg4_bytes a_kinds a_lengths a_letters a_strokeCounts a_strokes) → va_S A s.heap H locs → lv_has ls 7 [(0, .ref q_this), (1, .ref q_arg1), (2, .int x2), (3, .int x3), (4, .ref q_arg4), (5, .int x5), (6, .int x6)] → W p l e jr_Book_add s m args below meth c H locs 0 0 Q (F0 m 31 ls []) := by
    intro n
    induction n with
    | zero => intro x6 c_size a_kinds a_lengths a_letters a_strokeCounts a_strokes H locs ls h; exact j_none (α := Int32 × (Nat → Int32) × (Nat → Int32) × (Nat → Int32) × (Nat → Int32) × (Nat → Int32)) h
    | succ n ih =>
      intro x6 c_size a_kinds a_lengths a_letters a_strokeCounts a_strokes H locs ls h hP hD hS hl
      rw [jf_Book_add_b31] at h
      refine lv_iload hx hb dX0_add_31 (lv_at hl 6 rfl) ?_
      refine lv_iload_n hx hb dX0_add_33 rfl (lv_at hl 2 rfl) ?_
      refine lv_icmp_ge (tgt := 61) hx hb dX0_add_34 (by decide) (fun hq34 => ?_) (fun hq34 => ?_)
      · replace h := jif_t hq34 h
        exact kb61   c_size a_kinds a_lengths a_letters a_strokeCounts a_strokes _ _ _ h hP hD hS (lv_sub hl [0, 1, 2, 3, 4, 5] rfl)
      · replace h := jif_f hq34 h
        refine lv_aload_n hx hb dX0_add_37 rfl (lv_at hl 0 rfl) ?_
        refine va_get (D := E.1) (ci := 0) (v := .ref q_strokes) (C := RX0) (T := TX0) (N := 6) hx hb hts hin0 hown hK.1 hP 0 rfl rfl 2 (by decide) hk_18 (fun _ h9 => h9) rfl dX0_add_38 ?_
        refine lv_aload_n hx hb dX0_add_41 rfl (lv_at hl 0 rfl) ?_
        refine va_get (D := E.1) (ci := 0) (v := .int c_size) (C := RX0) (T := TX0) (N := 6) hx hb hts hin0 hown hK.1 hP 0 rfl rfl 5 (by decide) hk_32 (fun _ h9 => h9) rfl dX0_add_42 ?_
        refine lv_iconst (v := 5) hx hb dX0_add_45 (by decide) ?_
        refine lv_imul hx hb dX0_add_46 ?_
        refine lv_iload hx hb dX0_add_47 (lv_at hl 6 rfl) ?_
        refine lv_iadd hx hb dX0_add_49 ?_
        refine lv_aload_n hx hb dX0_add_50 rfl (lv_at hl 1 rfl) ?_
        refine lv_iload hx hb dX0_add_51 (lv_at hl 6 rfl) ?_
        obtain ⟨g53, h⟩ := jga_e h
        refine va_iald hx hb hK.1 hP 2 1 rfl rfl g53 dX0_add_53 ?_
        obtain ⟨g54, h⟩ := jga_e h
        refine va_iast hx hb hK.1 hP hD hS 8 1 rfl rfl g54 dX0_add_54 (fun H locs hP hD hS => ?_)
        replace hP : va_P E.1 vwCl (jw_Book_add E q_this q_kinds q_strokeCounts q_strokes q_lengths q_letters q_arg4 q_arg4_bytes q_arg1 n_arg1 c_size c_arg4_size a_arg1 a_arg4_bytes a_kinds a_lengths a_letters a_strokeCounts (upd a_strokes ((c_size * 5) + x6).toNatClampNeg (a_arg1 x6.toNatClampNeg))) H := hP
        replace hD : va_D A (jw_Book_add E q_this q_kinds q_strokeCounts q_strokes q_lengths q_letters q_arg4 q_arg4_bytes q_arg1 n_arg1 c_size c_arg4_size a_arg1 a_arg4_bytes a_kinds a_lengths a_letters a_strokeCounts (upd a_strokes ((c_size * 5) + x6).toNatClampNeg (a_arg1 x6.toNatClampNeg))) := hD
        refine lv_iinc (v := (x6 + 1)) (lv' := [(6, .int (x6 + 1)), (0, .ref q_this), (1, .ref q_arg1), (2, .int x2), (3, .int x3), (4, .ref q_arg4), (5, .int x5)]) hx hb dX0_add_55 hl (k := 6) rfl rfl (by decide) rfl (fun ls hl => ?_)
        refine lv_goto (tgt := 31) hx hb dX0_add_58 (by decide) ?_
        exact ih (x6 + 1) c_size a_kinds a_lengths a_letters a_strokeCounts (upd a_strokes ((c_size * 5) + x6).toNatClampNeg (a_arg1 x6.toNatClampNeg)) _ _ _ h hP hD hS (lv_sub hl [1, 2, 3, 4, 5, 6, 0] rfl)
  unfold jf_Book_add at h
  refine lv_aload_n hx hb dX0_add_0 rfl (lv_at hl 0 rfl) ?_
  refine va_get (D := E.1) (ci := 0) (v := .int c_size) (C := RX0) (T := TX0) (N := 6) hx hb hts hin0 hown hK.1 hP 0 rfl rfl 5 (by decide) hk_32 (fun _ h9 => h9) rfl dX0_add_1 ?_
  refine lv_bipush (v := 60) hx hb dX0_add_4 (by decide) ?_
  refine lv_icmp_ge (tgt := 27) hx hb dX0_add_6 (by decide) (fun hq6 => ?_) (fun hq6 => ?_)
  · replace h := jif_t hq6 h
    exact j_vret (u := (c_size, a_kinds, a_lengths, a_letters, a_strokeCounts, a_strokes)) (wv := (fun T => (jw_Book_add E q_this q_kinds q_strokeCounts q_strokes q_lengths q_letters q_arg4 q_arg4_bytes q_arg1 n_arg1 T.1 c_arg4_size a_arg1 a_arg4_bytes T.2.1 T.2.2.1 T.2.2.2.1 T.2.2.2.2.1 T.2.2.2.2.2))) h hQ hx hb hr hlocks hS hP hD dX0_add_27
  · replace h := jif_f hq6 h
    refine lv_iload_n hx hb dX0_add_9 rfl (lv_at hl 2 rfl) ?_
    refine lv_aload_n hx hb dX0_add_10 rfl (lv_at hl 1 rfl) ?_
    refine va_alen hx hb hK.1 hP 2 1 rfl rfl (v := (nI n_arg1)) rfl dX0_add_11 ?_
    refine lv_icmp_gt (tgt := 27) hx hb dX0_add_12 (by decide) (fun hq12 => ?_) (fun hq12 => ?_)
    · replace h := jif_t hq12 h
      exact j_vret (u := (c_size, a_kinds, a_lengths, a_letters, a_strokeCounts, a_strokes)) (wv := (fun T => (jw_Book_add E q_this q_kinds q_strokeCounts q_strokes q_lengths q_letters q_arg4 q_arg4_bytes q_arg1 n_arg1 T.1 c_arg4_size a_arg1 a_arg4_bytes T.2.1 T.2.2.1 T.2.2.2.1 T.2.2.2.2.1 T.2.2.2.2.2))) h hQ hx hb hr hlocks hS hP hD dX0_add_27
    · replace h := jif_f hq12 h
      refine lv_iload_n hx hb dX0_add_15 rfl (lv_at hl 2 rfl) ?_
      refine lv_iconst (v := 5) hx hb dX0_add_16 (by decide) ?_
      refine lv_icmp_gt (tgt := 27) hx hb dX0_add_17 (by decide) (fun hq17 => ?_) (fun hq17 => ?_)
      · replace h := jif_t hq17 h
        exact j_vret (u := (c_size, a_kinds, a_lengths, a_letters, a_strokeCounts, a_strokes)) (wv := (fun T => (jw_Book_add E q_this q_kinds q_strokeCounts q_strokes q_lengths q_letters q_arg4 q_arg4_bytes q_arg1 n_arg1 T.1 c_arg4_size a_arg1 a_arg4_bytes T.2.1 T.2.2.1 T.2.2.2.1 T.2.2.2.2.1 T.2.2.2.2.2))) h hQ hx hb hr hlocks hS hP hD dX0_add_27
      · replace h := jif_f hq17 h
        refine lv_iload hx hb dX0_add_20 (lv_at hl 5 rfl) ?_
        refine lv_bipush (v := 16) hx hb dX0_add_22 (by decide) ?_
        refine lv_icmp_le (tgt := 28) hx hb dX0_add_24 (by decide) (fun hq24 => ?_) (fun hq24 => ?_)
        · replace h := jif_t hq24 h
          refine lv_iconst (v := 0) hx hb dX0_add_28 (by decide) ?_
          refine lv_istore (lv' := [(6, .int 0), (0, .ref q_this), (1, .ref q_arg1), (2, .int x2), (3, .int x3), (4, .ref q_arg4), (5, .int x5)]) hx hb dX0_add_29 hl (by decide) rfl (fun ls hl => ?_)
          exact kb31  N 0 c_size a_kinds a_lengths a_letters a_strokeCounts a_strokes _ _ _ h hP hD hS (lv_sub hl [1, 2, 3, 4, 5, 6, 0] rfl)
        · replace h := jif_f hq24 h
          exact j_vret (u := (c_size, a_kinds, a_lengths, a_letters, a_strokeCounts, a_strokes)) (wv := (fun T => (jw_Book_add E q_this q_kinds q_strokeCounts q_strokes q_lengths q_letters q_arg4 q_arg4_bytes q_arg1 n_arg1 T.1 c_arg4_size a_arg1 a_arg4_bytes T.2.1 T.2.2.1 T.2.2.2.1 T.2.2.2.2.1 T.2.2.2.2.2))) h hQ hx hb hr hlocks hS hP hD dX0_add_27
abbrev jw_Reading_unread (E : jE) (q_this q_book q_keys q_firsts q_entries : Nat) (c_size : Int32) (c_readSoFar : Int32) : va_W := [(q_this, .inr (6, [.ref q_book, .ref q_keys, .ref q_firsts, .ref q_entries, .int c_size, .int c_readSoFar]))]
def jr_Reading_unread : Room := { frames := 1, cells := 0, slots := 0, locals := 21 }
set_option maxHeartbeats 4000000 in
set_option maxRecDepth 100000 in
theorem jc_Reading_unread (l : Launch) (E : jE) (q_this q_book q_keys q_firsts q_entries : Nat) (c_size : Int32) (c_readSoFar : Int32) (x1 : Int32) (N : Nat) {T : Int32} (h : jf_Reading_unread x1 c_readSoFar = some T) : jMv l yX6_unread wsX6_unread jr_Reading_unread E [.ref q_this, .int x1] (jw_Reading_unread E q_this q_book q_keys q_firsts q_entries c_size c_readSoFar) (jw_Reading_unread E q_this q_book q_keys q_firsts q_entries c_size T) := by
  refine jMv.begin (cc := cX6_unread) (maxL := 2) (ret := none) (by decide) rfl (Nat.le_of_ble_eq_true rfl) ?_
  intro p e s m args below meth c A ls Q hQ hx hb hr hml hown hlocks hts hK hA hP hD hS hl
  replace hown : s.vm.findClass RX6 = some m.cls := hown
  replace hl : lv_has ls 2 [(0, .ref q_this), (1, .int x1)] := hl
  have hin6 : ∀ w ∈ u_ws RX6 TX6 6, w ∈ wsX6_unread := by decide +kernel
  have hk_29 := hts (.fieldLink RX6 29 "StenoRoom$Reading" "readSoFar" "I") (by decide +kernel)
  unfold jf_Reading_unread at h
  refine lv_aload_n hx hb dX6_unread_0 rfl (lv_at hl 0 rfl) ?_
  refine lv_aload_n hx hb dX6_unread_1 rfl (lv_at hl 0 rfl) ?_
  refine va_get (D := E.1) (ci := 6) (v := .int c_readSoFar) (C := RX6) (T := TX6) (N := 6) hx hb hts hin6 hown hK.1 hP 0 rfl rfl 5 (by decide) hk_29 (fun _ h9 => h9) rfl dX6_unread_2 ?_
  refine lv_iload_n hx hb dX6_unread_5 rfl (lv_at hl 1 rfl) ?_
  refine va_mmin hx hb (hml.trans hl.1.symm) hown (hts (.methodLink RX6 38 Lib.Math.min.name) (by decide +kernel)) (hts (.static Lib.Math.min.name) (by decide +kernel)) (hts (.initialized "java/lang/Math") (by decide +kernel)) (hts (.code Lib.Math.min.name Lib.Math.min.code 2 (some .int)) (by decide +kernel)) (Nat.le_of_ble_eq_true rfl) (Nat.le_of_ble_eq_true rfl) (Nat.zero_le _) (Nat.zero_le _) dX6_unread_6 ?_
  refine va_put (D := E.1) (ci := 6) (v := .int (if x1 < c_readSoFar then x1 else c_readSoFar)) (ty := .int) (C := RX6) (T := TX6) (N := 6) hx hb hts hin6 tyX6 tyX6_ok nmX6 hown hK.1 hP hD hS 0 rfl rfl 5 (by decide) hk_29 (fun _ h9 => h9) rfl (by decide +kernel) rfl rfl (Nat.le_of_ble_eq_true rfl) dX6_unread_9 (fun H locs hP hD hS => ?_)
  replace hP : va_P E.1 vwCl (jw_Reading_unread E q_this q_book q_keys q_firsts q_entries c_size (if x1 < c_readSoFar then x1 else c_readSoFar)) H := hP
  replace hD : va_D A (jw_Reading_unread E q_this q_book q_keys q_firsts q_entries c_size (if x1 < c_readSoFar then x1 else c_readSoFar)) := hD
  exact j_vret (u := (if x1 < c_readSoFar then x1 else c_readSoFar)) (wv := (fun T => (jw_Reading_unread E q_this q_book q_keys q_firsts q_entries c_size T))) h hQ hx hb hr hlocks hS hP hD dX6_unread_12
abbrev jw_Transcript_forget (E : jE) (q_this q_book q_record q_page q_chord q_lasts q_behinds q_owners : Nat) (c_size : Int32) (c_raws : Int32) (c_settled : Int32) : va_W := [(q_this, .inr (9, [.ref q_book, .ref q_record, .ref q_page, .ref q_chord, .ref q_lasts, .ref q_behinds, .ref q_owners, .int c_size, .int c_raws, .int c_settled]))]
def jr_Transcript_forget : Room := { frames := 0, cells := 0, slots := 0, locals := 0 }
set_option maxHeartbeats 4000000 in
set_option maxRecDepth 100000 in
theorem jc_Transcript_forget (l : Launch) (E : jE) (q_this q_book q_record q_page q_chord q_lasts q_behinds q_owners : Nat) (c_size : Int32) (c_raws : Int32) (c_settled : Int32) (N : Nat) {T : Int32} (h : jf_Transcript_forget c_settled = some T) : jMv l yX9_forget wsX9_forget jr_Transcript_forget E [.ref q_this] (jw_Transcript_forget E q_this q_book q_record q_page q_chord q_lasts q_behinds q_owners c_size c_raws c_settled) (jw_Transcript_forget E q_this q_book q_record q_page q_chord q_lasts q_behinds q_owners c_size c_raws T) := by
  refine jMv.begin (cc := cX9_forget) (maxL := 1) (ret := none) (by decide) rfl (Nat.le_of_ble_eq_true rfl) ?_
  intro p e s m args below meth c A ls Q hQ hx hb hr hml hown hlocks hts hK hA hP hD hS hl
  replace hown : s.vm.findClass RX9 = some m.cls := hown
  replace hl : lv_has ls 1 [(0, .ref q_this)] := hl
  have hin9 : ∀ w ∈ u_ws RX9 TX9 10, w ∈ wsX9_forget := by decide +kernel
  have hk_40 := hts (.fieldLink RX9 40 "StenoRoom$Transcript" "settled" "Z") (by decide +kernel)
  unfold jf_Transcript_forget at h
  refine lv_aload_n hx hb dX9_forget_0 rfl (lv_at hl 0 rfl) ?_
  refine lv_iconst (v := 0) hx hb dX9_forget_1 (by decide) ?_
  refine va_put (D := E.1) (ci := 9) (v := .int 0) (ty := .boolean) (C := RX9) (T := TX9) (N := 10) hx hb hts hin9 tyX9 tyX9_ok nmX9 hown hK.1 hP hD hS 0 rfl rfl 9 (by decide) hk_40 (fun _ h9 => h9) rfl (by decide +kernel) rfl rfl (Nat.le_of_ble_eq_true rfl) dX9_forget_2 (fun H locs hP hD hS => ?_)
  replace hP : va_P E.1 vwCl (jw_Transcript_forget E q_this q_book q_record q_page q_chord q_lasts q_behinds q_owners c_size c_raws 0) H := hP
  replace hD : va_D A (jw_Transcript_forget E q_this q_book q_record q_page q_chord q_lasts q_behinds q_owners c_size c_raws 0) := hD
  exact j_vret (u := 0) (wv := (fun T => (jw_Transcript_forget E q_this q_book q_record q_page q_chord q_lasts q_behinds q_owners c_size c_raws T))) h hQ hx hb hr hlocks hS hP hD dX9_forget_5
abbrev jw_Room_readAnew (E : jE) (q_this q_tape q_entries q_record q_page q_transcript q_planner q_runs q_chord q_outline q_record_keys q_record_firsts q_record_entries q_transcript_chord q_transcript_lasts q_transcript_behinds q_transcript_owners : Nat) (c_record_size : Int32) (c_record_readSoFar : Int32) (c_transcript_size : Int32) (c_transcript_raws : Int32) (c_transcript_settled : Int32) : va_W := [(q_this, .inr (10, [.ref q_tape, .ref q_entries, .ref q_record, .ref q_page, .ref q_transcript, .ref q_planner, .ref q_runs, .ref q_chord, .ref q_outline])), (q_record, .inr (6, [.ref q_entries, .ref q_record_keys, .ref q_record_firsts, .ref q_record_entries, .int c_record_size, .int c_record_readSoFar])), (q_transcript, .inr (9, [.ref q_entries, .ref q_record, .ref q_page, .ref q_transcript_chord, .ref q_transcript_lasts, .ref q_transcript_behinds, .ref q_transcript_owners, .int c_transcript_size, .int c_transcript_raws, .int c_transcript_settled]))]
def jr_Room_readAnew : Room := { frames := 2, cells := 0, slots := 0, locals := 42 }
set_option maxHeartbeats 4000000 in
set_option maxRecDepth 100000 in
theorem jc_Room_readAnew (l : Launch) (E : jE) (q_this q_tape q_entries q_record q_page q_transcript q_planner q_runs q_chord q_outline q_record_keys q_record_firsts q_record_entries q_transcript_chord q_transcript_lasts q_transcript_behinds q_transcript_owners : Nat) (c_record_size : Int32) (c_record_readSoFar : Int32) (c_transcript_size : Int32) (c_transcript_raws : Int32) (c_transcript_settled : Int32) (x1 : Int32) (N : Nat) {T : Int32 × Int32} (h : jf_Room_readAnew x1 c_record_readSoFar c_transcript_settled = some T) : jMv l yX10_readAnew wsX10_readAnew jr_Room_readAnew E [.ref q_this, .int x1] (jw_Room_readAnew E q_this q_tape q_entries q_record q_page q_transcript q_planner q_runs q_chord q_outline q_record_keys q_record_firsts q_record_entries q_transcript_chord q_transcript_lasts q_transcript_behinds q_transcript_owners c_record_size c_record_readSoFar c_transcript_size c_transcript_raws c_transcript_settled) (jw_Room_readAnew E q_this q_tape q_entries q_record q_page q_transcript q_planner q_runs q_chord q_outline q_record_keys q_record_firsts q_record_entries q_transcript_chord q_transcript_lasts q_transcript_behinds q_transcript_owners c_record_size T.1 c_transcript_size c_transcript_raws T.2) := by
  refine jMv.begin (cc := cX10_readAnew) (maxL := 2) (ret := none) (by decide) rfl (Nat.le_of_ble_eq_true rfl) ?_
  intro p e s m args below meth c A ls Q hQ hx hb hr hml hown hlocks hts hK hA hP hD hS hl
  replace hown : s.vm.findClass RX10 = some m.cls := hown
  replace hl : lv_has ls 2 [(0, .ref q_this), (1, .int x1)] := hl
  have hin10 : ∀ w ∈ u_ws RX10 TX10 9, w ∈ wsX10_readAnew := by decide +kernel
  have hk_28 := hts (.fieldLink RX10 28 "StenoRoom" "record" "LStenoRoom$Reading;") (by decide +kernel)
  have hk_46 := hts (.fieldLink RX10 46 "StenoRoom" "transcript" "LStenoRoom$Transcript;") (by decide +kernel)
  unfold jf_Room_readAnew at h
  refine lv_aload_n hx hb dX10_readAnew_0 rfl (lv_at hl 0 rfl) ?_
  refine va_get (D := E.1) (ci := 10) (v := .ref q_record) (C := RX10) (T := TX10) (N := 9) hx hb hts hin10 hown hK.1 hP 0 rfl rfl 2 (by decide) hk_28 (fun _ h9 => h9) rfl dX10_readAnew_1 ?_
  refine lv_iload_n hx hb dX10_readAnew_4 rfl (lv_at hl 1 rfl) ?_
  obtain ⟨c_record_readSoFar_5, hf5, h⟩ := jbd h
  refine j_callVv (own := RX10) (As := [.int x1]) (rest := []) hx hb hml hown hts hK hA hP hD hS (jc_Reading_unread l E q_record q_entries q_record_keys q_record_firsts q_record_entries c_record_size c_record_readSoFar x1 N hf5) gX10_readAnew_X6_unread rfl ⟨rfl, rfl⟩ 1 (by decide +kernel) rfl rfl 1 6 rfl rfl [1] [0, 2] [0, 2, 1] rfl rfl rfl rfl rfl rfl rfl hl.1 rfl rfl dX10_readAnew_5 (fun H locs hP hD hS => ?_)
  replace hP : va_P E.1 vwCl (jw_Room_readAnew E q_this q_tape q_entries q_record q_page q_transcript q_planner q_runs q_chord q_outline q_record_keys q_record_firsts q_record_entries q_transcript_chord q_transcript_lasts q_transcript_behinds q_transcript_owners c_record_size c_record_readSoFar_5 c_transcript_size c_transcript_raws c_transcript_settled) H := hP
  replace hD : va_D A (jw_Room_readAnew E q_this q_tape q_entries q_record q_page q_transcript q_planner q_runs q_chord q_outline q_record_keys q_record_firsts q_record_entries q_transcript_chord q_transcript_lasts q_transcript_behinds q_transcript_owners c_record_size c_record_readSoFar_5 c_transcript_size c_transcript_raws c_transcript_settled) := hD
  refine lv_aload_n hx hb dX10_readAnew_8 rfl (lv_at hl 0 rfl) ?_
  refine va_get (D := E.1) (ci := 10) (v := .ref q_transcript) (C := RX10) (T := TX10) (N := 9) hx hb hts hin10 hown hK.1 hP 0 rfl rfl 4 (by decide) hk_46 (fun _ h9 => h9) rfl dX10_readAnew_9 ?_
  obtain ⟨c_transcript_settled_12, hf12, h⟩ := jbd h
  refine j_callVv (own := RX10) (As := []) (rest := []) hx hb hml hown hts hK hA hP hD hS (jc_Transcript_forget l E q_transcript q_entries q_record q_page q_transcript_chord q_transcript_lasts q_transcript_behinds q_transcript_owners c_transcript_size c_transcript_raws c_transcript_settled N hf12) gX10_readAnew_X9_forget rfl ⟨rfl, rfl⟩ 0 (by decide +kernel) rfl rfl 2 9 rfl rfl [2] [0, 1] [0, 1, 2] rfl rfl rfl rfl rfl rfl rfl hl.1 rfl rfl dX10_readAnew_12 (fun H locs hP hD hS => ?_)
  replace hP : va_P E.1 vwCl (jw_Room_readAnew E q_this q_tape q_entries q_record q_page q_transcript q_planner q_runs q_chord q_outline q_record_keys q_record_firsts q_record_entries q_transcript_chord q_transcript_lasts q_transcript_behinds q_transcript_owners c_record_size c_record_readSoFar_5 c_transcript_size c_transcript_raws c_transcript_settled_12) H := hP
  replace hD : va_D A (jw_Room_readAnew E q_this q_tape q_entries q_record q_page q_transcript q_planner q_runs q_chord q_outline q_record_keys q_record_firsts q_record_entries q_transcript_chord q_transcript_lasts q_transcript_behinds q_transcript_owners c_record_size c_record_readSoFar_5 c_transcript_size c_transcript_raws c_transcript_settled_12) := hD
  exact j_vret (u := (c_record_readSoFar_5, c_transcript_settled_12)) (wv := (fun T => (jw_Room_readAnew E q_this q_tape q_entries q_record q_page q_transcript q_planner q_runs q_chord q_outline q_record_keys q_record_firsts q_record_entries q_transcript_chord q_transcript_lasts q_transcript_behinds q_transcript_owners c_record_size T.1 c_transcript_size c_transcript_raws T.2))) h hQ hx hb hr hlocks hS hP hD dX10_readAnew_15
abbrev jw_Book_isFull (E : jE) (q_this q_kinds q_strokeCounts q_strokes q_lengths q_letters : Nat) (c_size : Int32) : va_W := [(q_this, .inr (0, [.ref q_kinds, .ref q_strokeCounts, .ref q_strokes, .ref q_lengths, .ref q_letters, .int c_size]))]
def jr_Book_isFull : Room := { frames := 0, cells := 0, slots := 0, locals := 0 }
set_option maxHeartbeats 4000000 in
set_option maxRecDepth 100000 in
theorem jc_Book_isFull (l : Launch) (E : jE) (q_this q_kinds q_strokeCounts q_strokes q_lengths q_letters : Nat) (c_size : Int32) (N : Nat) {T : Int32} (h : jf_Book_isFull c_size = some T) : jMi l yX0_isFull wsX0_isFull jr_Book_isFull E [.ref q_this] (jw_Book_isFull E q_this q_kinds q_strokeCounts q_strokes q_lengths q_letters c_size) (T) (jw_Book_isFull E q_this q_kinds q_strokeCounts q_strokes q_lengths q_letters c_size) := by
  refine jMi.begin (cc := cX0_isFull) (maxL := 1) (ret := (some .boolean)) (by decide) rfl (Nat.le_of_ble_eq_true rfl) ?_
  intro p e s m args below meth c A ls Q hQ hx hb hr hml hown hlocks hts hK hA hP hD hS hl
  replace hown : s.vm.findClass RX0 = some m.cls := hown
  replace hl : lv_has ls 1 [(0, .ref q_this)] := hl
  have hin0 : ∀ w ∈ u_ws RX0 TX0 6, w ∈ wsX0_isFull := by decide +kernel
  have hk_32 := hts (.fieldLink RX0 32 "StenoRoom$Book" "size" "I") (by decide +kernel)
  unfold jf_Book_isFull at h
  refine lv_aload_n hx hb dX0_isFull_0 rfl (lv_at hl 0 rfl) ?_
  refine va_get (D := E.1) (ci := 0) (v := .int c_size) (C := RX0) (T := TX0) (N := 6) hx hb hts hin0 hown hK.1 hP 0 rfl rfl 5 (by decide) hk_32 (fun _ h9 => h9) rfl dX0_isFull_1 ?_
  refine lv_bipush (v := 60) hx hb dX0_isFull_4 (by decide) ?_
  refine lv_icmp_lt (tgt := 13) hx hb dX0_isFull_6 (by decide) (fun hq6 => ?_) (fun hq6 => ?_)
  · replace h := jif_t hq6 h
    refine lv_iconst (v := 0) hx hb dX0_isFull_13 (by decide) ?_
    exact j_iret (u := 0) (rv := (fun T => T)) (wv := (fun _ => (jw_Book_isFull E q_this q_kinds q_strokeCounts q_strokes q_lengths q_letters c_size))) h hQ hx hb hr jb_0 hlocks hS hP hD dX0_isFull_14
  · replace h := jif_f hq6 h
    refine lv_iconst (v := 1) hx hb dX0_isFull_9 (by decide) ?_
    refine lv_goto (tgt := 14) hx hb dX0_isFull_10 (by decide) ?_
    exact j_iret (u := 1) (rv := (fun T => T)) (wv := (fun _ => (jw_Book_isFull E q_this q_kinds q_strokeCounts q_strokes q_lengths q_letters c_size))) h hQ hx hb hr jb_1 hlocks hS hP hD dX0_isFull_14
abbrev jw_Book_strokesOf (E : jE) (q_this q_kinds q_strokeCounts q_strokes q_lengths q_letters : Nat) (c_size : Int32) (a_strokeCounts : (Nat → Int32)) : va_W := [(q_this, .inr (0, [.ref q_kinds, .ref q_strokeCounts, .ref q_strokes, .ref q_lengths, .ref q_letters, .int c_size])), (q_strokeCounts, .inl (E.2.2.1, 60, .inl a_strokeCounts))]
def jr_Book_strokesOf : Room := { frames := 0, cells := 0, slots := 0, locals := 0 }
set_option maxHeartbeats 4000000 in
set_option maxRecDepth 100000 in
theorem jc_Book_strokesOf (l : Launch) (E : jE) (q_this q_kinds q_strokeCounts q_strokes q_lengths q_letters : Nat) (c_size : Int32) (a_strokeCounts : (Nat → Int32)) (x1 : Int32) (N : Nat) {T : Int32} (h : jf_Book_strokesOf x1 c_size a_strokeCounts = some T) : jMi l yX0_strokesOf wsX0_strokesOf jr_Book_strokesOf E [.ref q_this, .int x1] (jw_Book_strokesOf E q_this q_kinds q_strokeCounts q_strokes q_lengths q_letters c_size a_strokeCounts) (T) (jw_Book_strokesOf E q_this q_kinds q_strokeCounts q_strokes q_lengths q_letters c_size a_strokeCounts) := by
  refine jMi.begin (cc := cX0_strokesOf) (maxL := 2) (ret := (some .int)) (by decide) rfl (Nat.le_of_ble_eq_true rfl) ?_
  intro p e s m args below meth c A ls Q hQ hx hb hr hml hown hlocks hts hK hA hP hD hS hl
  replace hown : s.vm.findClass RX0 = some m.cls := hown
  replace hl : lv_has ls 2 [(0, .ref q_this), (1, .int x1)] := hl
  have hin0 : ∀ w ∈ u_ws RX0 TX0 6, w ∈ wsX0_strokesOf := by decide +kernel
  have hk_15 := hts (.fieldLink RX0 15 "StenoRoom$Book" "strokeCounts" "[I") (by decide +kernel)
  have hk_32 := hts (.fieldLink RX0 32 "StenoRoom$Book" "size" "I") (by decide +kernel)
  unfold jf_Book_strokesOf at h
  refine lv_iload_n hx hb dX0_strokesOf_0 rfl (lv_at hl 1 rfl) ?_
  refine lv_if_lt (tgt := 21) hx hb dX0_strokesOf_1 (by decide) (fun hq1 => ?_) (fun hq1 => ?_)
  · replace h := jif_t hq1 h
    refine lv_iconst (v := 0) hx hb dX0_strokesOf_21 (by decide) ?_
    exact j_iret (u := 0) (rv := (fun T => T)) (wv := (fun _ => (jw_Book_strokesOf E q_this q_kinds q_strokeCounts q_strokes q_lengths q_letters c_size a_strokeCounts))) h hQ hx hb hr rfl hlocks hS hP hD dX0_strokesOf_22
  · replace h := jif_f hq1 h
    refine lv_iload_n hx hb dX0_strokesOf_4 rfl (lv_at hl 1 rfl) ?_
    refine lv_aload_n hx hb dX0_strokesOf_5 rfl (lv_at hl 0 rfl) ?_
    refine va_get (D := E.1) (ci := 0) (v := .int c_size) (C := RX0) (T := TX0) (N := 6) hx hb hts hin0 hown hK.1 hP 0 rfl rfl 5 (by decide) hk_32 (fun _ h9 => h9) rfl dX0_strokesOf_6 ?_
    refine lv_icmp_ge (tgt := 21) hx hb dX0_strokesOf_9 (by decide) (fun hq9 => ?_) (fun hq9 => ?_)
    · replace h := jif_t hq9 h
      refine lv_iconst (v := 0) hx hb dX0_strokesOf_21 (by decide) ?_
      exact j_iret (u := 0) (rv := (fun T => T)) (wv := (fun _ => (jw_Book_strokesOf E q_this q_kinds q_strokeCounts q_strokes q_lengths q_letters c_size a_strokeCounts))) h hQ hx hb hr rfl hlocks hS hP hD dX0_strokesOf_22
    · replace h := jif_f hq9 h
      refine lv_aload_n hx hb dX0_strokesOf_12 rfl (lv_at hl 0 rfl) ?_
      refine va_get (D := E.1) (ci := 0) (v := .ref q_strokeCounts) (C := RX0) (T := TX0) (N := 6) hx hb hts hin0 hown hK.1 hP 0 rfl rfl 1 (by decide) hk_15 (fun _ h9 => h9) rfl dX0_strokesOf_13 ?_
      refine lv_iload_n hx hb dX0_strokesOf_16 rfl (lv_at hl 1 rfl) ?_
      obtain ⟨g17, h⟩ := jga_e h
      refine va_iald hx hb hK.1 hP 1 1 rfl rfl g17 dX0_strokesOf_17 ?_
      refine lv_goto (tgt := 22) hx hb dX0_strokesOf_18 (by decide) ?_
      exact j_iret (u := (a_strokeCounts x1.toNatClampNeg)) (rv := (fun T => T)) (wv := (fun _ => (jw_Book_strokesOf E q_this q_kinds q_strokeCounts q_strokes q_lengths q_letters c_size a_strokeCounts))) h hQ hx hb hr rfl hlocks hS hP hD dX0_strokesOf_22
abbrev jw_Book_isOutlineAt (E : jE) (q_this q_kinds q_strokeCounts q_strokes q_lengths q_letters q_arg2 : Nat) (n_arg2 : Nat) (c_size : Int32) (a_arg2 : (Nat → Int32)) (a_strokeCounts : (Nat → Int32)) (a_strokes : (Nat → Int32)) : va_W := [(q_this, .inr (0, [.ref q_kinds, .ref q_strokeCounts, .ref q_strokes, .ref q_lengths, .ref q_letters, .int c_size])), (q_arg2, .inl (E.2.2.1, n_arg2, .inl a_arg2)), (q_strokeCounts, .inl (E.2.2.1, 60, .inl a_strokeCounts)), (q_strokes, .inl (E.2.2.1, 300, .inl a_strokes))]
def jr_Book_isOutlineAt : Room := { frames := 1, cells := 0, slots := 0, locals := 21 }
set_option maxHeartbeats 4000000 in
set_option maxRecDepth 100000 in
theorem jc_Book_isOutlineAt (l : Launch) (E : jE) (q_this q_kinds q_strokeCounts q_strokes q_lengths q_letters q_arg2 : Nat) (n_arg2 : Nat) (c_size : Int32) (a_arg2 : (Nat → Int32)) (a_strokeCounts : (Nat → Int32)) (a_strokes : (Nat → Int32)) (x1 : Int32) (x3 : Int32) (N : Nat) {T : Int32} (h : jf_Book_isOutlineAt N x1 x3 n_arg2 c_size a_arg2 a_strokeCounts a_strokes = some T) : jMi l yX0_isOutlineAt wsX0_isOutlineAt jr_Book_isOutlineAt E [.ref q_this, .int x1, .ref q_arg2, .int x3] (jw_Book_isOutlineAt E q_this q_kinds q_strokeCounts q_strokes q_lengths q_letters q_arg2 n_arg2 c_size a_arg2 a_strokeCounts a_strokes) (T) (jw_Book_isOutlineAt E q_this q_kinds q_strokeCounts q_strokes q_lengths q_letters q_arg2 n_arg2 c_size a_arg2 a_strokeCounts a_strokes) := by
  refine jMi.begin (cc := cX0_isOutlineAt) (maxL := 6) (ret := (some .boolean)) (by decide) rfl (Nat.le_of_ble_eq_true rfl) ?_
  intro p e s m args below meth c A ls Q hQ hx hb hr hml hown hlocks hts hK hA hP hD hS hl
  replace hown : s.vm.findClass RX0 = some m.cls := hown
  replace hl : lv_has ls 6 [(0, .ref q_this), (1, .int x1), (2, .ref q_arg2), (3, .int x3)] := hl
  have hin0 : ∀ w ∈ u_ws RX0 TX0 6, w ∈ wsX0_isOutlineAt := by decide +kernel
  have hk_18 := hts (.fieldLink RX0 18 "StenoRoom$Book" "strokes" "[I") (by decide +kernel)
  have kb28 : ∀ (n : Nat) (x5 : Int32) (H : Heap) (locs : List Loc) (ls : Array Slot), jf_Book_isOutlineAt_b28 x1 x3 n_arg2 a_arg2 a_strokes n x5 = some T → va_P E.1 vwCl (jw_Book_isOutlineAt E q_this q_kinds q_strokeCounts q_strokes q_lengths q_letters q_arg2 n_arg2 c_size a_arg2 a_strokeCounts a_strokes) H → va_D A (jw_Book_isOutlineAt E q_this q_kinds q_strokeCounts q_strokes q_lengths q_letters q_arg2 n_arg2 c_size a_arg2 a_strokeCounts a_strokes) → va_S A s.heap H locs → lv_has ls 6 [(0, .ref q_this), (1, .int x1), (2, .ref q_arg2), (3, .int x3), (5, .int x5)] → W p l e jr_Book_isOutlineAt s m args below meth c H locs 0 0 Q (F0 m 28 ls []) := by
    intro n
    induction n with
    | zero => intro x5 H locs ls h; exact j_none (α := Int32) h
    | succ n ih =>
      intro x5 H locs ls h hP hD hS hl
      rw [jf_Book_isOutlineAt_b28] at h
      refine lv_iload hx hb dX0_isOutlineAt_28 (lv_at hl 4 rfl) ?_
      refine lv_if_lt (tgt := 61) hx hb dX0_isOutlineAt_30 (by decide) (fun hq30 => ?_) (fun hq30 => ?_)
      · replace h := jif_t hq30 h
        refine lv_iconst (v := 1) hx hb dX0_isOutlineAt_61 (by decide) ?_
        exact j_iret (u := 1) (rv := (fun T => T)) (wv := (fun _ => (jw_Book_isOutlineAt E q_this q_kinds q_strokeCounts q_strokes q_lengths q_letters q_arg2 n_arg2 c_size a_arg2 a_strokeCounts a_strokes))) h hQ hx hb hr jb_1 hlocks hS hP hD dX0_isOutlineAt_62
      · replace h := jif_f hq30 h
        refine lv_aload_n hx hb dX0_isOutlineAt_33 rfl (lv_at hl 2 rfl) ?_
        refine lv_iload_n hx hb dX0_isOutlineAt_34 rfl (lv_at hl 3 rfl) ?_
        refine lv_iload hx hb dX0_isOutlineAt_35 (lv_at hl 4 rfl) ?_
        refine lv_iadd hx hb dX0_isOutlineAt_37 ?_
        obtain ⟨g38, h⟩ := jga_e h
        refine va_iald hx hb hK.1 hP 1 1 rfl rfl g38 dX0_isOutlineAt_38 ?_
        refine lv_aload_n hx hb dX0_isOutlineAt_39 rfl (lv_at hl 0 rfl) ?_
        refine va_get (D := E.1) (ci := 0) (v := .ref q_strokes) (C := RX0) (T := TX0) (N := 6) hx hb hts hin0 hown hK.1 hP 0 rfl rfl 2 (by decide) hk_18 (fun _ h9 => h9) rfl dX0_isOutlineAt_40 ?_
        refine lv_iload_n hx hb dX0_isOutlineAt_43 rfl (lv_at hl 1 rfl) ?_
        refine lv_iconst (v := 5) hx hb dX0_isOutlineAt_44 (by decide) ?_
        refine lv_imul hx hb dX0_isOutlineAt_45 ?_
        refine lv_iload hx hb dX0_isOutlineAt_46 (lv_at hl 4 rfl) ?_
        refine lv_iadd hx hb dX0_isOutlineAt_48 ?_
        obtain ⟨g49, h⟩ := jga_e h
        refine va_iald hx hb hK.1 hP 3 1 rfl rfl g49 dX0_isOutlineAt_49 ?_
        refine lv_icmp_eq (tgt := 55) hx hb dX0_isOutlineAt_50 (by decide) (fun hq50 => ?_) (fun hq50 => ?_)
        · replace h := jif_t hq50 h
          refine lv_iinc (v := (x5 + (-1))) (lv' := [(5, .int (x5 + (-1))), (0, .ref q_this), (1, .int x1), (2, .ref q_arg2), (3, .int x3)]) hx hb dX0_isOutlineAt_55 hl (k := 4) rfl rfl (by decide) rfl (fun ls hl => ?_)
          refine lv_goto (tgt := 28) hx hb dX0_isOutlineAt_58 (by decide) ?_
          exact ih (x5 + (-1)) _ _ _ h hP hD hS (lv_sub hl [1, 2, 3, 4, 0] rfl)
        · replace h := jif_f hq50 h
          refine lv_iconst (v := 0) hx hb dX0_isOutlineAt_53 (by decide) ?_
          exact j_iret (u := 0) (rv := (fun T => T)) (wv := (fun _ => (jw_Book_isOutlineAt E q_this q_kinds q_strokeCounts q_strokes q_lengths q_letters q_arg2 n_arg2 c_size a_arg2 a_strokeCounts a_strokes))) h hQ hx hb hr jb_0 hlocks hS hP hD dX0_isOutlineAt_54
  unfold jf_Book_isOutlineAt at h
  refine lv_aload_n hx hb dX0_isOutlineAt_0 rfl (lv_at hl 0 rfl) ?_
  refine lv_iload_n hx hb dX0_isOutlineAt_1 rfl (lv_at hl 1 rfl) ?_
  obtain ⟨r2, hf2, h⟩ := jbd h
  refine j_callVi (own := RX0) (As := [.int x1]) (rest := []) hx hb hml hown hts hK hA hP hD hS (jc_Book_strokesOf l E q_this q_kinds q_strokeCounts q_strokes q_lengths q_letters c_size a_strokeCounts x1 N hf2) gX0_isOutlineAt_X0_strokesOf rfl ⟨rfl, rfl⟩ 1 (by decide +kernel) rfl rfl 0 0 rfl rfl [0, 2] [1, 3] [2, 0, 3, 1] rfl rfl rfl rfl rfl rfl rfl hl.1 rfl rfl dX0_isOutlineAt_2 (fun H locs hP hD hS => ?_)
  replace hP : va_P E.1 vwCl (jw_Book_isOutlineAt E q_this q_kinds q_strokeCounts q_strokes q_lengths q_letters q_arg2 n_arg2 c_size a_arg2 a_strokeCounts a_strokes) H := hP
  replace hD : va_D A (jw_Book_isOutlineAt E q_this q_kinds q_strokeCounts q_strokes q_lengths q_letters q_arg2 n_arg2 c_size a_arg2 a_strokeCounts a_strokes) := hD
  refine lv_istore (lv' := [(4, .int r2), (0, .ref q_this), (1, .int x1), (2, .ref q_arg2), (3, .int x3)]) hx hb dX0_isOutlineAt_5 hl (by decide) rfl (fun ls hl => ?_)
  refine lv_iload_n hx hb dX0_isOutlineAt_7 rfl (lv_at hl 4 rfl) ?_
  refine lv_if_lt (tgt := 20) hx hb dX0_isOutlineAt_8 (by decide) (fun hq8 => ?_) (fun hq8 => ?_)
  · replace h := jif_t hq8 h
    refine lv_iconst (v := 0) hx hb dX0_isOutlineAt_20 (by decide) ?_
    exact j_iret (u := 0) (rv := (fun T => T)) (wv := (fun _ => (jw_Book_isOutlineAt E q_this q_kinds q_strokeCounts q_strokes q_lengths q_letters q_arg2 n_arg2 c_size a_arg2 a_strokeCounts a_strokes))) h hQ hx hb hr jb_0 hlocks hS hP hD dX0_isOutlineAt_21
  · replace h := jif_f hq8 h
    refine lv_iload_n hx hb dX0_isOutlineAt_11 rfl (lv_at hl 4 rfl) ?_
    refine lv_aload_n hx hb dX0_isOutlineAt_12 rfl (lv_at hl 3 rfl) ?_
    refine va_alen hx hb hK.1 hP 1 1 rfl rfl (v := (nI n_arg2)) rfl dX0_isOutlineAt_13 ?_
    refine lv_iload hx hb dX0_isOutlineAt_14 (lv_at hl 0 rfl) ?_
    refine lv_isub hx hb dX0_isOutlineAt_16 ?_
    refine lv_icmp_le (tgt := 22) hx hb dX0_isOutlineAt_17 (by decide) (fun hq17 => ?_) (fun hq17 => ?_)
    · replace h := jif_t hq17 h
      refine lv_iload hx hb dX0_isOutlineAt_22 (lv_at hl 0 rfl) ?_
      refine lv_iconst (v := 1) hx hb dX0_isOutlineAt_24 (by decide) ?_
      refine lv_isub hx hb dX0_isOutlineAt_25 ?_
      refine lv_istore (lv' := [(5, .int (r2 - 1)), (4, .int r2), (0, .ref q_this), (1, .int x1), (2, .ref q_arg2), (3, .int x3)]) hx hb dX0_isOutlineAt_26 hl (by decide) rfl (fun ls hl => ?_)
      exact kb28  N (r2 - 1) _ _ _ h hP hD hS (lv_sub hl [2, 3, 4, 5, 0] rfl)
    · replace h := jif_f hq17 h
      refine lv_iconst (v := 0) hx hb dX0_isOutlineAt_20 (by decide) ?_
      exact j_iret (u := 0) (rv := (fun T => T)) (wv := (fun _ => (jw_Book_isOutlineAt E q_this q_kinds q_strokeCounts q_strokes q_lengths q_letters q_arg2 n_arg2 c_size a_arg2 a_strokeCounts a_strokes))) h hQ hx hb hr jb_0 hlocks hS hP hD dX0_isOutlineAt_21
abbrev jw_Book_hasOutline (E : jE) (q_this q_kinds q_strokeCounts q_strokes q_lengths q_letters q_arg1 : Nat) (n_arg1 : Nat) (c_size : Int32) (a_arg1 : (Nat → Int32)) (a_strokeCounts : (Nat → Int32)) (a_strokes : (Nat → Int32)) : va_W := [(q_this, .inr (0, [.ref q_kinds, .ref q_strokeCounts, .ref q_strokes, .ref q_lengths, .ref q_letters, .int c_size])), (q_arg1, .inl (E.2.2.1, n_arg1, .inl a_arg1)), (q_strokeCounts, .inl (E.2.2.1, 60, .inl a_strokeCounts)), (q_strokes, .inl (E.2.2.1, 300, .inl a_strokes))]
def jr_Book_hasOutline : Room := { frames := 2, cells := 0, slots := 0, locals := 46 }
set_option maxHeartbeats 4000000 in
set_option maxRecDepth 100000 in
theorem jc_Book_hasOutline (l : Launch) (E : jE) (q_this q_kinds q_strokeCounts q_strokes q_lengths q_letters q_arg1 : Nat) (n_arg1 : Nat) (c_size : Int32) (a_arg1 : (Nat → Int32)) (a_strokeCounts : (Nat → Int32)) (a_strokes : (Nat → Int32)) (x2 : Int32) (N : Nat) {T : Int32} (h : jf_Book_hasOutline N x2 n_arg1 c_size a_arg1 a_strokeCounts a_strokes = some T) : jMi l yX0_hasOutline wsX0_hasOutline jr_Book_hasOutline E [.ref q_this, .ref q_arg1, .int x2] (jw_Book_hasOutline E q_this q_kinds q_strokeCounts q_strokes q_lengths q_letters q_arg1 n_arg1 c_size a_arg1 a_strokeCounts a_strokes) (T) (jw_Book_hasOutline E q_this q_kinds q_strokeCounts q_strokes q_lengths q_letters q_arg1 n_arg1 c_size a_arg1 a_strokeCounts a_strokes) := by
  refine jMi.begin (cc := cX0_hasOutline) (maxL := 4) (ret := (some .boolean)) (by decide) rfl (Nat.le_of_ble_eq_true rfl) ?_
  intro p e s m args below meth c A ls Q hQ hx hb hr hml hown hlocks hts hK hA hP hD hS hl
  replace hown : s.vm.findClass RX0 = some m.cls := hown
  replace hl : lv_has ls 4 [(0, .ref q_this), (1, .ref q_arg1), (2, .int x2)] := hl
  have hin0 : ∀ w ∈ u_ws RX0 TX0 6, w ∈ wsX0_hasOutline := by decide +kernel
  have hk_15 := hts (.fieldLink RX0 15 "StenoRoom$Book" "strokeCounts" "[I") (by decide +kernel)
  have hk_32 := hts (.fieldLink RX0 32 "StenoRoom$Book" "size" "I") (by decide +kernel)
  have kb32 : ∀ (k2 : Int32 → Option (Int32)) (hk2 : ∀ (x3 : Int32) (H : Heap) (locs : List Loc) (ls : Array Slot), k2 x3 = some T → va_P E.1 vwCl (jw_Book_hasOutline E q_this q_kinds q_strokeCounts q_strokes q_lengths q_letters q_arg1 n_arg1 c_size a_arg1 a_strokeCounts a_strokes) H → va_D A (jw_Book_hasOutline E q_this q_kinds q_strokeCounts q_strokes q_lengths q_letters q_arg1 n_arg1 c_size a_arg1 a_strokeCounts a_strokes) → va_S A s.heap H locs → lv_has ls 4 [(0, .ref q_this), (1, .ref q_arg1), (2, .int x2), (3, .int x3)] → W p l e jr_Book_hasOutline s m args below meth c H locs 0 0 Q (F0 m 2 ls [])) (x3 : Int32) (H : Heap) (locs : List Loc) (ls : Array Slot), jf_Book_hasOutline_b32 k2 x3 = some T → va_P E.1 vwCl (jw_Book_hasOutline E q_this q_kinds q_strokeCounts q_strokes q_lengths q_letters q_arg1 n_arg1 c_size a_arg1 a_strokeCounts a_strokes) H → va_D A (jw_Book_hasOutline E q_this q_kinds q_strokeCounts q_strokes q_lengths q_letters q_arg1 n_arg1 c_size a_arg1 a_strokeCounts a_strokes) → va_S A s.heap H locs → lv_has ls 4 [(0, .ref q_this), (1, .ref q_arg1), (2, .int x2), (3, .int x3)] → W p l e jr_Book_hasOutline s m args below meth c H locs 0 0 Q (F0 m 32 ls []) := by
    intro k2 hk2 x3 H locs ls h hP hD hS hl
    unfold jf_Book_hasOutline_b32 at h
    refine lv_iinc (v := (x3 + 1)) (lv' := [(3, .int (x3 + 1)), (0, .ref q_this), (1, .ref q_arg1), (2, .int x2)]) hx hb dX0_hasOutline_32 hl (k := 3) rfl rfl (by decide) rfl (fun ls hl => ?_)
    refine lv_goto (tgt := 2) hx hb dX0_hasOutline_35 (by decide) ?_
    exact hk2 (x3 + 1) _ _ _ h hP hD hS (lv_sub hl [1, 2, 3, 0] rfl)
  have kb2 : ∀ (n : Nat) (x3 : Int32) (H : Heap) (locs : List Loc) (ls : Array Slot), jf_Book_hasOutline_b2 N x2 n_arg1 c_size a_arg1 a_strokeCounts a_strokes n x3 = some T → va_P E.1 vwCl (jw_Book_hasOutline E q_this q_kinds q_strokeCounts q_strokes q_lengths q_letters q_arg1 n_arg1 c_size a_arg1 a_strokeCounts a_strokes) H → va_D A (jw_Book_hasOutline E q_this q_kinds q_strokeCounts q_strokes q_lengths q_letters q_arg1 n_arg1 c_size a_arg1 a_strokeCounts a_strokes) → va_S A s.heap H locs → lv_has ls 4 [(0, .ref q_this), (1, .ref q_arg1), (2, .int x2), (3, .int x3)] → W p l e jr_Book_hasOutline s m args below meth c H locs 0 0 Q (F0 m 2 ls []) := by
    intro n
    induction n with
    | zero => intro x3 H locs ls h; exact j_none (α := Int32) h
    | succ n ih =>
      intro x3 H locs ls h hP hD hS hl
      rw [jf_Book_hasOutline_b2] at h
      refine lv_iload_n hx hb dX0_hasOutline_2 rfl (lv_at hl 3 rfl) ?_
      refine lv_aload_n hx hb dX0_hasOutline_3 rfl (lv_at hl 0 rfl) ?_
      refine va_get (D := E.1) (ci := 0) (v := .int c_size) (C := RX0) (T := TX0) (N := 6) hx hb hts hin0 hown hK.1 hP 0 rfl rfl 5 (by decide) hk_32 (fun _ h9 => h9) rfl dX0_hasOutline_4 ?_
      refine lv_icmp_ge (tgt := 38) hx hb dX0_hasOutline_7 (by decide) (fun hq7 => ?_) (fun hq7 => ?_)
      · replace h := jif_t hq7 h
        refine lv_iconst (v := 0) hx hb dX0_hasOutline_38 (by decide) ?_
        exact j_iret (u := 0) (rv := (fun T => T)) (wv := (fun _ => (jw_Book_hasOutline E q_this q_kinds q_strokeCounts q_strokes q_lengths q_letters q_arg1 n_arg1 c_size a_arg1 a_strokeCounts a_strokes))) h hQ hx hb hr jb_0 hlocks hS hP hD dX0_hasOutline_39
      · replace h := jif_f hq7 h
        refine lv_aload_n hx hb dX0_hasOutline_10 rfl (lv_at hl 0 rfl) ?_
        refine va_get (D := E.1) (ci := 0) (v := .ref q_strokeCounts) (C := RX0) (T := TX0) (N := 6) hx hb hts hin0 hown hK.1 hP 0 rfl rfl 1 (by decide) hk_15 (fun _ h9 => h9) rfl dX0_hasOutline_11 ?_
        refine lv_iload_n hx hb dX0_hasOutline_14 rfl (lv_at hl 3 rfl) ?_
        obtain ⟨g15, h⟩ := jga_e h
        refine va_iald hx hb hK.1 hP 2 1 rfl rfl g15 dX0_hasOutline_15 ?_
        refine lv_iload_n hx hb dX0_hasOutline_16 rfl (lv_at hl 2 rfl) ?_
        refine lv_icmp_ne (tgt := 32) hx hb dX0_hasOutline_17 (by decide) (fun hq17 => ?_) (fun hq17 => ?_)
        · replace h := jif_f hq17 h
          exact kb32 (jf_Book_hasOutline_b2 N x2 n_arg1 c_size a_arg1 a_strokeCounts a_strokes n) ih  x3 _ _ _ h hP hD hS (lv_sub hl [0, 1, 2, 3] rfl)
        · replace h := jif_t hq17 h
          refine lv_aload_n hx hb dX0_hasOutline_20 rfl (lv_at hl 0 rfl) ?_
          refine lv_iload_n hx hb dX0_hasOutline_21 rfl (lv_at hl 3 rfl) ?_
          refine lv_aload_n hx hb dX0_hasOutline_22 rfl (lv_at hl 1 rfl) ?_
          refine lv_iconst (v := 0) hx hb dX0_hasOutline_23 (by decide) ?_
          obtain ⟨r24, hf24, h⟩ := jbd h
          refine j_callVi (own := RX0) (As := [.int x3, .ref q_arg1, .int 0]) (rest := []) hx hb hml hown hts hK hA hP hD hS (jc_Book_isOutlineAt l E q_this q_kinds q_strokeCounts q_strokes q_lengths q_letters q_arg1 n_arg1 c_size a_arg1 a_strokeCounts a_strokes x3 0 N hf24) gX0_hasOutline_X0_isOutlineAt rfl ⟨rfl, rfl⟩ 3 (by decide +kernel) rfl rfl 0 0 rfl rfl [0, 1, 2, 3] [] [0, 1, 2, 3] rfl rfl rfl rfl rfl rfl rfl hl.1 rfl rfl dX0_hasOutline_24 (fun H locs hP hD hS => ?_)
          replace hP : va_P E.1 vwCl (jw_Book_hasOutline E q_this q_kinds q_strokeCounts q_strokes q_lengths q_letters q_arg1 n_arg1 c_size a_arg1 a_strokeCounts a_strokes) H := hP
          replace hD : va_D A (jw_Book_hasOutline E q_this q_kinds q_strokeCounts q_strokes q_lengths q_letters q_arg1 n_arg1 c_size a_arg1 a_strokeCounts a_strokes) := hD
          refine lv_if_eq (tgt := 32) hx hb dX0_hasOutline_27 (by decide) (fun hq27 => ?_) (fun hq27 => ?_)
          · replace h := jif_t hq27 h
            exact kb32 (jf_Book_hasOutline_b2 N x2 n_arg1 c_size a_arg1 a_strokeCounts a_strokes n) ih  x3 _ _ _ h hP hD hS (lv_sub hl [0, 1, 2, 3] rfl)
          · replace h := jif_f hq27 h
            refine lv_iconst (v := 1) hx hb dX0_hasOutline_30 (by decide) ?_
            exact j_iret (u := 1) (rv := (fun T => T)) (wv := (fun _ => (jw_Book_hasOutline E q_this q_kinds q_strokeCounts q_strokes q_lengths q_letters q_arg1 n_arg1 c_size a_arg1 a_strokeCounts a_strokes))) h hQ hx hb hr jb_1 hlocks hS hP hD dX0_hasOutline_31
  unfold jf_Book_hasOutline at h
  refine lv_iconst (v := 0) hx hb dX0_hasOutline_0 (by decide) ?_
  refine lv_istore_n (lv' := [(3, .int 0), (0, .ref q_this), (1, .ref q_arg1), (2, .int x2)]) hx hb dX0_hasOutline_1 rfl hl (by decide) rfl (fun ls hl => ?_)
  exact kb2  N 0 _ _ _ h hP hD hS (lv_sub hl [1, 2, 3, 0] rfl)
