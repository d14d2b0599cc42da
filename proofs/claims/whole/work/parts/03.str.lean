/-! String.length and charAt of the one constant text of the class -/
def jr_0 : Room := { frames := 0, cells := 0, slots := 0, locals := 0 }
def jr_1 : Room := { frames := 1, cells := 0, slots := 0, locals := 24 }
def jr_2 : Room := { frames := 2, cells := 0, slots := 0, locals := 48 }
def jr_3 : Room := { frames := 3, cells := 0, slots := 0, locals := 72 }
set_option maxHeartbeats 4000000 in
set_option maxRecDepth 100000 in
theorem jc_coder (l : Launch) (E : jE) : jMi l yJ0_coder_7d493 wsJ0_coder_7d493 jr_0 E [.ref (E.2.2.2.1 0)] [] 0 [] := by
  refine jMi.begin (cc := cJ0_coder_7d493) (maxL := 1) (ret := some .byte) (by decide) rfl (Nat.le_of_ble_eq_true rfl) ?_
  intro p e s m args below meth c A ls Q hQ hx hb hr hml hown hlocks hts hK hA hP hD hS hl
  replace hown : s.vm.findClass RJ0 = some m.cls := hown
  replace hl : lv_has ls 1 [(0, .ref (E.2.2.2.1 0))] := hl
  refine va_gets hx hb hK.2.2.2.2.1 hS hown (hts (.fieldLink RJ0 38 "java/lang/String" "COMPACT_STRINGS" "Z") (by decide +kernel)) (fun _ h => h) dJ0_coder_7d493_0 ?_
  refine lv_if_eq (tgt := 13) hx hb dJ0_coder_7d493_3 (by decide) (fun hq => absurd hq (by decide)) (fun hq => ?_)
  refine lv_aload_n hx hb dJ0_coder_7d493_6 rfl (lv_at hl 0 rfl) ?_
  refine vk_getf hx hb (hK.2.2.1.1 0 (by decide)).2.1 hS hown (hts (.fieldLink RJ0 15 "java/lang/String" "coder" "B") (by decide +kernel)) (fun _ h => h) dJ0_coder_7d493_7 ?_
  refine lv_goto (tgt := 14) hx hb dJ0_coder_7d493_10 (by decide) ?_
  exact j_iret (T := (0 : Int32)) (u := 0) (rv := fun T => T) (wv := fun _ => []) rfl hQ hx hb hr rfl hlocks hS hP hD dJ0_coder_7d493_14
set_option maxHeartbeats 4000000 in
set_option maxRecDepth 100000 in
theorem jc_isLatin1 (l : Launch) (E : jE) : jMi l yJ0_isLatin1_aae02 wsJ0_isLatin1_aae02 jr_0 E [.ref (E.2.2.2.1 0)] [] 1 [] := by
  refine jMi.begin (cc := cJ0_isLatin1_aae02) (maxL := 1) (ret := some .boolean) (by decide) rfl (Nat.le_of_ble_eq_true rfl) ?_
  intro p e s m args below meth c A ls Q hQ hx hb hr hml hown hlocks hts hK hA hP hD hS hl
  replace hown : s.vm.findClass RJ0 = some m.cls := hown
  replace hl : lv_has ls 1 [(0, .ref (E.2.2.2.1 0))] := hl
  refine va_gets hx hb hK.2.2.2.2.1 hS hown (hts (.fieldLink RJ0 38 "java/lang/String" "COMPACT_STRINGS" "Z") (by decide +kernel)) (fun _ h => h) dJ0_isLatin1_aae02_0 ?_
  refine lv_if_eq (tgt := 17) hx hb dJ0_isLatin1_aae02_3 (by decide) (fun hq => absurd hq (by decide)) (fun hq => ?_)
  refine lv_aload_n hx hb dJ0_isLatin1_aae02_6 rfl (lv_at hl 0 rfl) ?_
  refine vk_getf hx hb (hK.2.2.1.1 0 (by decide)).2.1 hS hown (hts (.fieldLink RJ0 15 "java/lang/String" "coder" "B") (by decide +kernel)) (fun _ h => h) dJ0_isLatin1_aae02_7 ?_
  refine lv_if_ne (tgt := 17) hx hb dJ0_isLatin1_aae02_10 (by decide) (fun hq => absurd rfl hq) (fun hq => ?_)
  refine lv_iconst (v := 1) hx hb dJ0_isLatin1_aae02_13 (by decide) ?_
  refine lv_goto (tgt := 18) hx hb dJ0_isLatin1_aae02_14 (by decide) ?_
  exact j_iret (T := (1 : Int32)) (u := 1) (rv := fun T => T) (wv := fun _ => []) rfl hQ hx hb hr rfl hlocks hS hP hD dJ0_isLatin1_aae02_18
set_option maxHeartbeats 4000000 in
set_option maxRecDepth 100000 in
theorem jc_length (l : Launch) (E : jE) : jMi l yJ0_length_8abf5 wsJ0_length_8abf5 jr_1 E [.ref (E.2.2.2.1 0)] [] 22 [] := by
  refine jMi.begin (cc := cJ0_length_8abf5) (maxL := 1) (ret := some .int) (by decide) rfl (Nat.le_of_ble_eq_true rfl) ?_
  intro p e s m args below meth c A ls Q hQ hx hb hr hml hown hlocks hts hK hA hP hD hS hl
  replace hown : s.vm.findClass RJ0 = some m.cls := hown
  replace hl : lv_has ls 1 [(0, .ref (E.2.2.2.1 0))] := hl
  refine lv_aload_n hx hb dJ0_length_8abf5_0 rfl (lv_at hl 0 rfl) ?_
  refine vk_getf hx hb (hK.2.2.1.1 0 (by decide)).2.2.1 hS hown (hts (.fieldLink RJ0 9 "java/lang/String" "value" "[B") (by decide +kernel)) (fun _ h => h) dJ0_length_8abf5_1 ?_
  refine va_tlen hx hb (hK.2.2.1.1 0 (by decide)).2.2.2 hS (v := 22) rfl dJ0_length_8abf5_4 ?_
  refine lv_aload_n hx hb dJ0_length_8abf5_5 rfl (lv_at hl 0 rfl) ?_
  refine j_callRi (own := RJ0) (As := []) (rest := [.int 22]) hx hb hml hown hts hK hA hP hD hS (jc_coder l E) gJ0_length_8abf5_J0_coder_7d493 rfl ⟨rfl, rfl⟩ 0 (by decide +kernel) rfl rfl (vk_recv hK.2.2.1 (by decide) hS) [] [] [] rfl rfl rfl rfl rfl rfl rfl hl.1 rfl rfl dJ0_length_8abf5_6 (fun H locs hP hD hS => ?_)
  replace hP : va_P E.1 vwCl [] H := hP
  replace hD : va_D A [] := hD
  refine lv_ishr hx hb dJ0_length_8abf5_9 ?_
  exact j_iret (T := (22 : Int32)) (u := ((22 : Int32) >>> ((0 : Int32) &&& 31))) (rv := fun T => T) (wv := fun _ => []) (by decide) hQ hx hb hr rfl hlocks hS hP hD dJ0_length_8abf5_10
set_option maxHeartbeats 4000000 in
set_option maxRecDepth 100000 in
theorem jc_pcheck (l : Launch) (E : jE) (i : Nat) (hi : i < 22) (v : Value) (hv : v = .null ∨ ∃ t, v = .ref t) : jMi l yJ3_checkIndex_8e157 wsJ3_checkIndex_8e157 jr_0 E [.int (nI i), .int 22, v] [] (nI i) [] := by
  have hc : (lg_sl [.int (nI i), .int 22, v]).length = 3 ∧ lv_args 0 [.int (nI i), .int 22, v] = [(0, .int (nI i)), (1, .int 22), (2, v)] := by
    rcases hv with rfl | ⟨t, rfl⟩ <;> exact ⟨rfl, rfl⟩
  refine jMi.begin (cc := cJ3_checkIndex_8e157) (maxL := 3) (ret := some .int) (by decide) rfl (Nat.le_of_eq hc.1) ?_
  intro p e s m args below meth c A ls Q hQ hx hb hr hml hown hlocks hts hK hA hP hD hS hl
  rw [hc.2] at hl
  refine lv_iload_n hx hb dJ3_checkIndex_8e157_0 rfl (lv_at hl 0 rfl) ?_
  refine lv_if_lt (tgt := 9) hx hb dJ3_checkIndex_8e157_1 (by decide) (fun hq => absurd hq (nI_pos (by omega))) (fun hq => ?_)
  refine lv_iload_n hx hb dJ3_checkIndex_8e157_4 rfl (lv_at hl 0 rfl) ?_
  refine lv_iload_n hx hb dJ3_checkIndex_8e157_5 rfl (lv_at hl 1 rfl) ?_
  refine lv_icmp_lt (tgt := 16) hx hb dJ3_checkIndex_8e157_6 (by decide) (fun hq => ?_) (fun hq => absurd (nI_lt hi (by decide) : nI i < nI 22) hq)
  refine lv_iload_n hx hb dJ3_checkIndex_8e157_16 rfl (lv_at hl 0 rfl) ?_
  exact j_iret (T := nI i) (u := nI i) (rv := fun T => T) (wv := fun _ => []) rfl hQ hx hb hr rfl hlocks hS hP hD dJ3_checkIndex_8e157_17
set_option maxHeartbeats 4000000 in
set_option maxRecDepth 100000 in
theorem jc_scheck (l : Launch) (E : jE) (i : Nat) (hi : i < 22) : jMv l yJ0_checkIndex_df160 wsJ0_checkIndex_df160 jr_1 E [.int (nI i), .int 22] [] [] := by
  refine jMv.begin (cc := cJ0_checkIndex_df160) (maxL := 2) (ret := none) (by decide) rfl (Nat.le_of_ble_eq_true rfl) ?_
  intro p e s m args below meth c A ls Q hQ hx hb hr hml hown hlocks hts hK hA hP hD hS hl
  replace hown : s.vm.findClass RJ0 = some m.cls := hown
  replace hl : lv_has ls 2 [(0, .int (nI i)), (1, .int 22)] := hl
  refine lv_iload_n hx hb dJ0_checkIndex_df160_0 rfl (lv_at hl 0 rfl) ?_
  refine lv_iload_n hx hb dJ0_checkIndex_df160_1 rfl (lv_at hl 1 rfl) ?_
  rcases hK.2.2.2.2.2 with hz | ⟨t, hz⟩
  · refine va_gets hx hb hz hS hown (hts (.fieldLink RJ0 1053 "jdk/internal/util/Preconditions" "SIOOBE_FORMATTER" "Ljava/util/function/BiFunction;") (by decide +kernel)) (fun _ h => h) dJ0_checkIndex_df160_2 ?_
    refine j_callSi (own := RJ0) (As := [.int (nI i), .int 22, .null]) (rest := []) hx hb hml hown hts hK hA hP hD hS (jc_pcheck l E i hi .null (Or.inl rfl)) gJ0_checkIndex_df160_J3_checkIndex_8e157 rfl ⟨rfl, rfl⟩ 3 (by decide +kernel) rfl rfl [] [] [] rfl rfl rfl rfl rfl rfl rfl hl.1 rfl rfl dJ0_checkIndex_df160_5 (fun H locs hP hD hS => ?_)
    refine lv_pop hx hb dJ0_checkIndex_df160_8 rfl ?_
    exact j_vret (T := ()) (u := ()) (wv := fun _ => []) rfl hQ hx hb hr hlocks hS hP hD dJ0_checkIndex_df160_9
  · refine va_gets hx hb hz hS hown (hts (.fieldLink RJ0 1053 "jdk/internal/util/Preconditions" "SIOOBE_FORMATTER" "Ljava/util/function/BiFunction;") (by decide +kernel)) (fun _ h => h) dJ0_checkIndex_df160_2 ?_
    refine j_callSi (own := RJ0) (As := [.int (nI i), .int 22, .ref t]) (rest := []) hx hb hml hown hts hK hA hP hD hS (jc_pcheck l E i hi (.ref t) (Or.inr ⟨t, rfl⟩)) gJ0_checkIndex_df160_J3_checkIndex_8e157 rfl ⟨rfl, rfl⟩ 3 (by decide +kernel) rfl rfl [] [] [] rfl rfl rfl rfl rfl rfl rfl hl.1 rfl rfl dJ0_checkIndex_df160_5 (fun H locs hP hD hS => ?_)
    refine lv_pop hx hb dJ0_checkIndex_df160_8 rfl ?_
    exact j_vret (T := ()) (u := ()) (wv := fun _ => []) rfl hQ hx hb hr hlocks hS hP hD dJ0_checkIndex_df160_9
theorem jKey_b : ∀ i, i < 22 → (((jKey i &&& 255).toUInt32 % 65536).toInt32 = jKey i ∧ narrow .char (.int (jKey i)) = .int (jKey i)) := by decide +kernel
set_option maxHeartbeats 4000000 in
set_option maxRecDepth 100000 in
theorem jc_l1char (l : Launch) (E : jE) (i : Nat) (hi : i < 22) : jMi l yJ1_charAt_3b067 wsJ1_charAt_3b067 jr_2 E [.ref (E.2.2.2.2 0), .int (nI i)] [] (jKey i) [] := by
  refine jMi.begin (cc := cJ1_charAt_3b067) (maxL := 2) (ret := some .char) (by decide) rfl (Nat.le_of_ble_eq_true rfl) ?_
  intro p e s m args below meth c A ls Q hQ hx hb hr hml hown hlocks hts hK hA hP hD hS hl
  replace hown : s.vm.findClass RJ1 = some m.cls := hown
  replace hl : lv_has ls 2 [(0, .ref (E.2.2.2.2 0)), (1, .int (nI i))] := hl
  refine lv_iload_n hx hb dJ1_charAt_3b067_0 rfl (lv_at hl 1 rfl) ?_
  refine lv_aload_n hx hb dJ1_charAt_3b067_1 rfl (lv_at hl 0 rfl) ?_
  refine va_tlen hx hb (hK.2.2.1.1 0 (by decide)).2.2.2 hS (v := 22) rfl dJ1_charAt_3b067_2 ?_
  refine j_callSv (own := RJ1) (As := [.int (nI i), .int 22]) (rest := []) hx hb hml hown hts hK hA hP hD hS (jc_scheck l E i hi) gJ1_charAt_3b067_J0_checkIndex_df160 rfl ⟨rfl, rfl⟩ 2 (by decide +kernel) rfl rfl [] [] [] rfl rfl rfl rfl rfl rfl rfl hl.1 rfl rfl dJ1_charAt_3b067_3 (fun H locs hP hD hS => ?_)
  refine lv_aload_n hx hb dJ1_charAt_3b067_6 rfl (lv_at hl 0 rfl) ?_
  refine lv_iload_n hx hb dJ1_charAt_3b067_7 rfl (lv_at hl 1 rfl) ?_
  refine va_tb hx hb (hK.2.2.1.1 0 (by decide)).2.2.2 hS (vp_in_nI hi (by decide)) (v := .int (jKey i)) (by rw [nI_clamp (by omega)]; rfl) dJ1_charAt_3b067_8 ?_
  refine lv_sipush (v := 255) hx hb dJ1_charAt_3b067_9 (by decide) ?_
  refine lv_iand hx hb dJ1_charAt_3b067_12 ?_
  refine lv_i2c (v := jKey i) hx hb dJ1_charAt_3b067_13 (jKey_b i hi).1 ?_
  exact j_iret (T := jKey i) (u := jKey i) (rv := fun T => T) (wv := fun _ => []) rfl hQ hx hb hr (jKey_b i hi).2 hlocks hS hP hD dJ1_charAt_3b067_14
set_option maxHeartbeats 4000000 in
set_option maxRecDepth 100000 in
theorem jc_charAt (l : Launch) (E : jE) (i : Nat) (hi : i < 22) : jMi l yJ0_charAt_5068e wsJ0_charAt_5068e jr_3 E [.ref (E.2.2.2.1 0), .int (nI i)] [] (jKey i) [] := by
  refine jMi.begin (cc := cJ0_charAt_5068e) (maxL := 2) (ret := some .char) (by decide) rfl (Nat.le_of_ble_eq_true rfl) ?_
  intro p e s m args below meth c A ls Q hQ hx hb hr hml hown hlocks hts hK hA hP hD hS hl
  replace hown : s.vm.findClass RJ0 = some m.cls := hown
  replace hl : lv_has ls 2 [(0, .ref (E.2.2.2.1 0)), (1, .int (nI i))] := hl
  refine lv_aload_n hx hb dJ0_charAt_5068e_0 rfl (lv_at hl 0 rfl) ?_
  refine j_callRi (own := RJ0) (As := []) (rest := []) hx hb hml hown hts hK hA hP hD hS (jc_isLatin1 l E) gJ0_charAt_5068e_J0_isLatin1_aae02 rfl ⟨rfl, rfl⟩ 0 (by decide +kernel) rfl rfl (vk_recv hK.2.2.1 (by decide) hS) [] [] [] rfl rfl rfl rfl rfl rfl rfl hl.1 rfl rfl dJ0_charAt_5068e_1 (fun H locs hP hD hS => ?_)
  refine lv_if_eq (tgt := 16) hx hb dJ0_charAt_5068e_4 (by decide) (fun hq => absurd hq (by decide)) (fun hq => ?_)
  refine lv_aload_n hx hb dJ0_charAt_5068e_7 rfl (lv_at hl 0 rfl) ?_
  refine vk_getf hx hb (hK.2.2.1.1 0 (by decide)).2.2.1 hS hown (hts (.fieldLink RJ0 9 "java/lang/String" "value" "[B") (by decide +kernel)) (fun _ h => h) dJ0_charAt_5068e_8 ?_
  refine lv_iload_n hx hb dJ0_charAt_5068e_11 rfl (lv_at hl 1 rfl) ?_
  refine j_callSi (own := RJ0) (As := [.ref (E.2.2.2.2 0), .int (nI i)]) (rest := []) hx hb hml hown hts hK hA hP hD hS (jc_l1char l E i hi) gJ0_charAt_5068e_J1_charAt_3b067 rfl ⟨rfl, rfl⟩ 2 (by decide +kernel) rfl rfl [] [] [] rfl rfl rfl rfl rfl rfl rfl hl.1 rfl rfl dJ0_charAt_5068e_12 (fun H locs hP hD hS => ?_)
  exact j_iret (T := jKey i) (u := jKey i) (rv := fun T => T) (wv := fun _ => []) rfl hQ hx hb hr (jKey_b i hi).2 hlocks hS hP hD dJ0_charAt_5068e_15
section JST
variable {p : Program} {l : Launch} {e : Env} {R : Room} {s : State} {m : MethodId} {args : Array Value} {below : List Frame} {meth : Method} {c : Code} {H : Heap} {locs : List Loc} {Q : State → Prop}
variable {cc : ByteArray} {pc nL index : Nat} {ls : Array Slot} {rest : List Value} {A : Nat → Prop} {E : jE} {w : va_W} {Ts : List Cond} {own : String}
/-- the text's length; the cells stay -/
theorem j_strLen (hx : p.tables.exec = Jvm.exec) (hb : c.code = cc) (hml : c.maxLocals = nL) (hown : s.vm.findClass own = some m.cls) (hts : ∀ w ∈ Ts, w.before args s = true) (hK : jK E A s) (hA : ∀ q, s.heap.size ≤ q → A q) (hP : va_P E.1 vwCl w H) (hD : va_D A w) (hS : va_S A s.heap H locs) (hG : GoodIn Ts (wsV own index RJ0 yJ0_length_8abf5 wsJ0_length_8abf5)) (hR : (Nat.ble 2 R.frames && Nat.ble 44 R.locals) = true) (isR : List Nat) (hRr : (isR.all fun i => i.blt w.length) = true) (hn : va_nd isR = true) (hsz : ls.size = nL) (hroom : Nat.ble (rest.map fun v => Value.category v).sum 8 = true) (hdg : decode cc pc = .ok (.invokevirtual index, 3))
    (kk : ∀ (H1 : Heap) (locs1 : List Loc), va_P E.1 vwCl (isR.filterMap (fun i => (isR.filterMap (fun i => w[i]?) ++ [])[i]?)) H1 → va_D A (isR.filterMap (fun i => (isR.filterMap (fun i => w[i]?) ++ [])[i]?)) → va_S A s.heap H1 locs1 → W p l e R s m args below meth c H1 locs1 0 0 Q (F0 m (pc + 3) ls (.int 22 :: rest))) (hB : (isR.all fun i => i.blt (isR.length + 0)) = true) : W p l e R s m args below meth c H locs 0 0 Q (F0 m pc ls (.ref (E.2.2.2.1 0) :: rest)) := by
  exact j_callRi (As := []) (rest := rest) hx hb hml hown hts hK hA hP hD hS (jc_length l E) hG rfl ⟨rfl, rfl⟩ 0 (by decide +kernel) rfl hR (vk_recv hK.2.2.1 (by decide) hS) [] isR isR rfl rfl hRr hn (by simp) hB hn hsz rfl hroom hdg kk
theorem j_strChar (hx : p.tables.exec = Jvm.exec) (hb : c.code = cc) (hml : c.maxLocals = nL) (hown : s.vm.findClass own = some m.cls) (hts : ∀ w ∈ Ts, w.before args s = true) (hK : jK E A s) (hA : ∀ q, s.heap.size ≤ q → A q) (hP : va_P E.1 vwCl w H) (hD : va_D A w) (hS : va_S A s.heap H locs) (hG : GoodIn Ts (wsV own index RJ0 yJ0_charAt_5068e wsJ0_charAt_5068e)) (hR : (Nat.ble 4 R.frames && Nat.ble 93 R.locals) = true) (isR : List Nat) (hRr : (isR.all fun i => i.blt w.length) = true) (hn : va_nd isR = true) (hsz : ls.size = nL) (hroom : Nat.ble (rest.map fun v => Value.category v).sum 8 = true) (hdg : decode cc pc = .ok (.invokevirtual index, 3)) {x : Int32} (hi : vp_in x 22)
    (kk : ∀ (H1 : Heap) (locs1 : List Loc), va_P E.1 vwCl (isR.filterMap (fun i => (isR.filterMap (fun i => w[i]?) ++ [])[i]?)) H1 → va_D A (isR.filterMap (fun i => (isR.filterMap (fun i => w[i]?) ++ [])[i]?)) → va_S A s.heap H1 locs1 → W p l e R s m args below meth c H1 locs1 0 0 Q (F0 m (pc + 3) ls (.int (jKey x.toNatClampNeg) :: rest))) (hB : (isR.all fun i => i.blt (isR.length + 0)) = true) : W p l e R s m args below meth c H locs 0 0 Q (F0 m pc ls (.int x :: .ref (E.2.2.2.1 0) :: rest)) := by
  obtain ⟨j, hj, rfl⟩ := vp_in_of hi (by decide)
  rw [nI_clamp (by omega)] at kk
  exact j_callRi (As := [.int (nI j)]) (rest := rest) hx hb hml hown hts hK hA hP hD hS (jc_charAt l E j hj) hG rfl ⟨rfl, rfl⟩ 1 (by decide +kernel) rfl hR (vk_recv hK.2.2.1 (by decide) hS) [] isR isR rfl rfl hRr hn (by simp) hB hn hsz rfl hroom hdg kk
end JST
