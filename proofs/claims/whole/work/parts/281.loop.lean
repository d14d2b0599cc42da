/-! the law's loop -/
theorem ls_go {i L : Nat} (hL : L ≤ 4096) (hi : i ≤ L) (h : ¬ Int32.ofNat L - 8 < nI i) : i + 8 ≤ L := by
  rcases Nat.lt_or_ge L 8 with q | q
  · exfalso
    apply h
    have key : ∀ L, L < 8 → ∀ i, i ≤ L → Int32.ofNat L - 8 < nI i := by decide
    exact key L q i hi
  · have e : Int32.ofNat L - 8 = nI (L - 8) := p_sub (b := 8) q
    rw [e, p_lt (by omega) (by omega)] at h
    omega
def R_law : String := "StenoRoomLaw"
/-! THE CLAIM OUT OF ONE WALK OF THE LAW'S BODY. Your part is whole_start (and what it stands on); all else here is the same for every law, but numbers. -/
def lw_P (b : Addr) (xs : List Int32) (args : Array Value) (s : State) : Prop := args = #[.ref b] ∧ s.IntsAt b xs ∧ xs.length ≤ 4096 ∧ (Jvm.Cond.and given_1 narrow_1).before args s = true
def lw_Q (_ : Array Value) (s : State) (o : Outcome) (t : State) : Prop := o = .returned (some (.int 1)) ∧ Framed s o t [] 600000 7302250
def lw_Z (below : List Frame) (a : Array Value) (s : State) : State → Prop := fun t => ∃ o, t.status = .running ∧ Ended t below o ∧ lw_Q a s o t
/-- the law's own end, with 1 on the stack, nothing written that was there before, its room as the claim has it -/
theorem lw_ret {p : Program} {l : Launch} {e : Env} {s : State} {m : MethodId} {below : List Frame} {meth : Method} {c : Code} {b : Nat} (hx : p.tables.exec = Jvm.exec) (hb : c.code = code) (hr : meth.sig.returnType = ret) (hlocks : meth.locks = false) {pc : Nat} {H : Heap} {ls : Array Slot} (hdg : decode code pc = .ok (.ireturn, 1)) : W p l e room_1 s m #[Value.ref b] below meth c H [] 600000 7302250 (lw_Z below #[Value.ref b] s) (F0 m pc ls [.int 1]) := by
  intro T hT X
  obtain ⟨fs, hret, hrun, hended, hW, hframe⟩ := X.leave (v := some (.int 1)) (hlocks := hlocks) (fun h => by rw [hr] at h; cases h)
  have hmeth' : T.vm.method? m = some meth := X.method'
  refine ⟨T.setFrames fs, ?_, .returned (some (.int 1)), hrun, hended, rfl, ⟨_, rfl⟩, hW, hframe⟩
  jvm_step X.here [X.here.top, hx, hb, hdg, hmeth', hr, ret, narrow_b1]
  (try refine ⟨rfl, ?_⟩); (try refine ⟨rfl, ?_⟩)
  first | (intro acts; rw [hret _ acts rfl rfl rfl]) | rw [hret _ _ rfl rfl rfl]
  exact Steps.refl _
/-- what holds at the law's entry: the machine, the code, the tables' words (any of lw_tbl by 'hts w (by decide +kernel)'), the script of L ints xs at the cell b, what the Statement gives of the start (any of its parts by flat_of_before) -/
def lw_At (p : Program) (s : State) (m : MethodId) (meth : Method) (c : Code) (b L : Nat) (xs : Nat → Int32) : Prop :=
  p.tables.exec = Jvm.exec ∧ c.code = code ∧ meth.sig.returnType = ret ∧ c.maxLocals = 4 ∧ s.vm.findClass R_law = some m.cls ∧ (∀ w ∈ lw_tbl, w.before #[Value.ref b] s = true) ∧ va_X b L xs s s.heap ∧ b < s.heap.size ∧ meth.locks = false ∧ (Jvm.Cond.and given_1 narrow_1).before #[Value.ref b] s = true
set_option maxHeartbeats 4000000 in
set_option maxRecDepth 100000 in
theorem lwS_elim {E : jE} {q : Nat → Nat} {A : Nat → Prop} {H : Heap} {C : Prop} (h : lwS E q A H) (k : ∀ (c_tape_size : Int32) (c_entries_size : Int32) (c_record_size : Int32) (c_record_readSoFar : Int32) (c_page_size : Int32) (c_page_shift : Int32) (c_page_link : Int32) (c_page_lastWordLength : Int32) (c_page_lastWordVowels : Int32) (c_transcript_size : Int32) (c_transcript_raws : Int32) (c_transcript_settled : Int32) (c_transcript_chord_size : Int32) (c_planner_length : Int32) (c_planner_drafted : Int32) (c_planner_latestEntries : Int32) (c_planner_latestStrokes : Int32) (c_planner_latestClear : Int32) (c_planner_prefixed_innerKind : Int32) (c_planner_prefixed_lastKind : Int32) (c_planner_glued_innerKind : Int32) (c_planner_glued_lastKind : Int32) (c_planner_joined_word : Int32) (c_planner_joined_suffix : Int32) (c_planner_joined_trial_size : Int32) (c_planner_joined_trial_shift : Int32) (c_planner_joined_trial_link : Int32) (c_planner_joined_trial_lastWordLength : Int32) (c_planner_joined_trial_lastWordVowels : Int32) (c_planner_trial_size : Int32) (c_planner_trial_readSoFar : Int32) (c_runs_size : Int32) (c_runs_skipped : Int32) (c_chord_size : Int32) (a_chord_letters : (Nat → Int32)) (a_entries_kinds : (Nat → Int32)) (a_entries_lengths : (Nat → Int32)) (a_entries_letters : (Nat → Int32)) (a_entries_strokeCounts : (Nat → Int32)) (a_entries_strokes : (Nat → Int32)) (a_outline : (Nat → Int32)) (a_page_bytes : (Nat → Int32)) (a_planner_draft : (Nat → Int32)) (a_planner_glued_costs : (Nat → Int32)) (a_planner_glued_picks : (Nat → Int32)) (a_planner_joined_trial_bytes : (Nat → Int32)) (a_planner_latest : (Nat → Int32)) (a_planner_prefixed_costs : (Nat → Int32)) (a_planner_prefixed_picks : (Nat → Int32)) (a_planner_trial_entries : (Nat → Int32)) (a_planner_trial_firsts : (Nat → Int32)) (a_planner_trial_keys : (Nat → Int32)) (a_planner_words : (Nat → Int32)) (a_record_entries : (Nat → Int32)) (a_record_firsts : (Nat → Int32)) (a_record_keys : (Nat → Int32)) (a_runs_longer : (Nat → Int32)) (a_tape_bytes : (Nat → Int32)) (a_transcript_behinds : (Nat → Int32)) (a_transcript_chord_letters : (Nat → Int32)) (a_transcript_lasts : (Nat → Int32)) (a_transcript_owners : (Nat → Int32)) (m_taped : Int32) (m_entries : Int32) (m_recorded : Int32) (m_translations : Int32) (m_length : Int32) (m_shift : Int32) (m_link : Int32) (m_chordMany : Int32) (m_lastMany : Int32) (m_bestMany : Int32) (m_bestStrokes : Int32) (m_triedMany : Int32) (m_triedStrokes : Int32) (m_planMany : Int32) (m_planStrokes : Int32) (m_madeMany : Int32) (m_madeStrokes : Int32) (m_isClear : Int32) (m_isPlanned : Int32) (n_asked : (Nat → Int32)) (n_best : (Nat → Int32)) (n_chord : (Nat → Int32)) (n_itsEntry : (Nat → Int32)) (n_itsFirst : (Nat → Int32)) (n_kind : (Nat → Int32)) (n_lengthAhead : (Nat → Int32)) (n_lengthBehind : (Nat → Int32)) (n_made : (Nat → Int32)) (n_plan : (Nat → Int32)) (n_record : (Nat → Int32)) (n_strokeMany : (Nat → Int32)) (n_strokes : (Nat → Int32)) (n_taken : (Nat → Int32)) (n_tape : (Nat → Int32)) (n_text : (Nat → Int32)) (n_textMany : (Nat → Int32)) (n_texts : (Nat → Int32)) (n_trial : (Nat → Int32)) (n_tried : (Nat → Int32)) (n_two : (Nat → Int32)) (n_way : (Nat → Int32)) (n_wayMany : (Nat → Int32)) (n_wayStrokes : (Nat → Int32)), INV c_tape_size a_tape_bytes m_taped n_tape c_entries_size a_entries_kinds a_entries_strokeCounts a_entries_strokes a_entries_lengths a_entries_letters m_entries n_kind n_strokeMany n_strokes n_textMany n_texts c_record_size c_record_readSoFar c_transcript_settled a_record_keys a_record_firsts a_record_entries m_recorded n_record c_transcript_size c_transcript_raws c_page_size c_page_shift c_page_link a_transcript_behinds a_transcript_lasts a_transcript_owners a_page_bytes c_planner_latestEntries c_planner_latestStrokes c_planner_latestClear a_planner_latest m_planMany m_planStrokes m_isClear m_isPlanned n_plan c_planner_glued_innerKind c_planner_glued_lastKind c_planner_prefixed_innerKind c_planner_prefixed_lastKind → va_P E.1 vwCl (jw_L E q c_tape_size c_entries_size c_record_size c_record_readSoFar c_page_size c_page_shift c_page_link c_page_lastWordLength c_page_lastWordVowels c_transcript_size c_transcript_raws c_transcript_settled c_transcript_chord_size c_planner_length c_planner_drafted c_planner_latestEntries c_planner_latestStrokes c_planner_latestClear c_planner_prefixed_innerKind c_planner_prefixed_lastKind c_planner_glued_innerKind c_planner_glued_lastKind c_planner_joined_word c_planner_joined_suffix c_planner_joined_trial_size c_planner_joined_trial_shift c_planner_joined_trial_link c_planner_joined_trial_lastWordLength c_planner_joined_trial_lastWordVowels c_planner_trial_size c_planner_trial_readSoFar c_runs_size c_runs_skipped c_chord_size a_chord_letters a_entries_kinds a_entries_lengths a_entries_letters a_entries_strokeCounts a_entries_strokes a_outline a_page_bytes a_planner_draft a_planner_glued_costs a_planner_glued_picks a_planner_joined_trial_bytes a_planner_latest a_planner_prefixed_costs a_planner_prefixed_picks a_planner_trial_entries a_planner_trial_firsts a_planner_trial_keys a_planner_words a_record_entries a_record_firsts a_record_keys a_runs_longer a_tape_bytes a_transcript_behinds a_transcript_chord_letters a_transcript_lasts a_transcript_owners m_taped m_entries m_recorded m_translations m_length m_shift m_link m_chordMany m_lastMany m_bestMany m_bestStrokes m_triedMany m_triedStrokes m_planMany m_planStrokes m_madeMany m_madeStrokes m_isClear m_isPlanned n_asked n_best n_chord n_itsEntry n_itsFirst n_kind n_lengthAhead n_lengthBehind n_made n_plan n_record n_strokeMany n_strokes n_taken n_tape n_text n_textMany n_texts n_trial n_tried n_two n_way n_wayMany n_wayStrokes) H → va_D A (jw_L E q c_tape_size c_entries_size c_record_size c_record_readSoFar c_page_size c_page_shift c_page_link c_page_lastWordLength c_page_lastWordVowels c_transcript_size c_transcript_raws c_transcript_settled c_transcript_chord_size c_planner_length c_planner_drafted c_planner_latestEntries c_planner_latestStrokes c_planner_latestClear c_planner_prefixed_innerKind c_planner_prefixed_lastKind c_planner_glued_innerKind c_planner_glued_lastKind c_planner_joined_word c_planner_joined_suffix c_planner_joined_trial_size c_planner_joined_trial_shift c_planner_joined_trial_link c_planner_joined_trial_lastWordLength c_planner_joined_trial_lastWordVowels c_planner_trial_size c_planner_trial_readSoFar c_runs_size c_runs_skipped c_chord_size a_chord_letters a_entries_kinds a_entries_lengths a_entries_letters a_entries_strokeCounts a_entries_strokes a_outline a_page_bytes a_planner_draft a_planner_glued_costs a_planner_glued_picks a_planner_joined_trial_bytes a_planner_latest a_planner_prefixed_costs a_planner_prefixed_picks a_planner_trial_entries a_planner_trial_firsts a_planner_trial_keys a_planner_words a_record_entries a_record_firsts a_record_keys a_runs_longer a_tape_bytes a_transcript_behinds a_transcript_chord_letters a_transcript_lasts a_transcript_owners m_taped m_entries m_recorded m_translations m_length m_shift m_link m_chordMany m_lastMany m_bestMany m_bestStrokes m_triedMany m_triedStrokes m_planMany m_planStrokes m_madeMany m_madeStrokes m_isClear m_isPlanned n_asked n_best n_chord n_itsEntry n_itsFirst n_kind n_lengthAhead n_lengthBehind n_made n_plan n_record n_strokeMany n_strokes n_taken n_tape n_text n_textMany n_texts n_trial n_tried n_two n_way n_wayMany n_wayStrokes) → C) : C := h.elim fun c_tape_size h => h.elim fun c_entries_size h => h.elim fun c_record_size h => h.elim fun c_record_readSoFar h => h.elim fun c_page_size h => h.elim fun c_page_shift h => h.elim fun c_page_link h => h.elim fun c_page_lastWordLength h => h.elim fun c_page_lastWordVowels h => h.elim fun c_transcript_size h => h.elim fun c_transcript_raws h => h.elim fun c_transcript_settled h => h.elim fun c_transcript_chord_size h => h.elim fun c_planner_length h => h.elim fun c_planner_drafted h => h.elim fun c_planner_latestEntries h => h.elim fun c_planner_latestStrokes h => h.elim fun c_planner_latestClear h => h.elim fun c_planner_prefixed_innerKind h => h.elim fun c_planner_prefixed_lastKind h => h.elim fun c_planner_glued_innerKind h => h.elim fun c_planner_glued_lastKind h => h.elim fun c_planner_joined_word h => h.elim fun c_planner_joined_suffix h => h.elim fun c_planner_joined_trial_size h => h.elim fun c_planner_joined_trial_shift h => h.elim fun c_planner_joined_trial_link h => h.elim fun c_planner_joined_trial_lastWordLength h => h.elim fun c_planner_joined_trial_lastWordVowels h => h.elim fun c_planner_trial_size h => h.elim fun c_planner_trial_readSoFar h => h.elim fun c_runs_size h => h.elim fun c_runs_skipped h => h.elim fun c_chord_size h => h.elim fun a_chord_letters h => h.elim fun a_entries_kinds h => h.elim fun a_entries_lengths h => h.elim fun a_entries_letters h => h.elim fun a_entries_strokeCounts h => h.elim fun a_entries_strokes h => h.elim fun a_outline h => h.elim fun a_page_bytes h => h.elim fun a_planner_draft h => h.elim fun a_planner_glued_costs h => h.elim fun a_planner_glued_picks h => h.elim fun a_planner_joined_trial_bytes h => h.elim fun a_planner_latest h => h.elim fun a_planner_prefixed_costs h => h.elim fun a_planner_prefixed_picks h => h.elim fun a_planner_trial_entries h => h.elim fun a_planner_trial_firsts h => h.elim fun a_planner_trial_keys h => h.elim fun a_planner_words h => h.elim fun a_record_entries h => h.elim fun a_record_firsts h => h.elim fun a_record_keys h => h.elim fun a_runs_longer h => h.elim fun a_tape_bytes h => h.elim fun a_transcript_behinds h => h.elim fun a_transcript_chord_letters h => h.elim fun a_transcript_lasts h => h.elim fun a_transcript_owners h => h.elim fun m_taped h => h.elim fun m_entries h => h.elim fun m_recorded h => h.elim fun m_translations h => h.elim fun m_length h => h.elim fun m_shift h => h.elim fun m_link h => h.elim fun m_chordMany h => h.elim fun m_lastMany h => h.elim fun m_bestMany h => h.elim fun m_bestStrokes h => h.elim fun m_triedMany h => h.elim fun m_triedStrokes h => h.elim fun m_planMany h => h.elim fun m_planStrokes h => h.elim fun m_madeMany h => h.elim fun m_madeStrokes h => h.elim fun m_isClear h => h.elim fun m_isPlanned h => h.elim fun n_asked h => h.elim fun n_best h => h.elim fun n_chord h => h.elim fun n_itsEntry h => h.elim fun n_itsFirst h => h.elim fun n_kind h => h.elim fun n_lengthAhead h => h.elim fun n_lengthBehind h => h.elim fun n_made h => h.elim fun n_plan h => h.elim fun n_record h => h.elim fun n_strokeMany h => h.elim fun n_strokes h => h.elim fun n_taken h => h.elim fun n_tape h => h.elim fun n_text h => h.elim fun n_textMany h => h.elim fun n_texts h => h.elim fun n_trial h => h.elim fun n_tried h => h.elim fun n_two h => h.elim fun n_way h => h.elim fun n_wayMany h => h.elim fun n_wayStrokes g => k c_tape_size c_entries_size c_record_size c_record_readSoFar c_page_size c_page_shift c_page_link c_page_lastWordLength c_page_lastWordVowels c_transcript_size c_transcript_raws c_transcript_settled c_transcript_chord_size c_planner_length c_planner_drafted c_planner_latestEntries c_planner_latestStrokes c_planner_latestClear c_planner_prefixed_innerKind c_planner_prefixed_lastKind c_planner_glued_innerKind c_planner_glued_lastKind c_planner_joined_word c_planner_joined_suffix c_planner_joined_trial_size c_planner_joined_trial_shift c_planner_joined_trial_link c_planner_joined_trial_lastWordLength c_planner_joined_trial_lastWordVowels c_planner_trial_size c_planner_trial_readSoFar c_runs_size c_runs_skipped c_chord_size a_chord_letters a_entries_kinds a_entries_lengths a_entries_letters a_entries_strokeCounts a_entries_strokes a_outline a_page_bytes a_planner_draft a_planner_glued_costs a_planner_glued_picks a_planner_joined_trial_bytes a_planner_latest a_planner_prefixed_costs a_planner_prefixed_picks a_planner_trial_entries a_planner_trial_firsts a_planner_trial_keys a_planner_words a_record_entries a_record_firsts a_record_keys a_runs_longer a_tape_bytes a_transcript_behinds a_transcript_chord_letters a_transcript_lasts a_transcript_owners m_taped m_entries m_recorded m_translations m_length m_shift m_link m_chordMany m_lastMany m_bestMany m_bestStrokes m_triedMany m_triedStrokes m_planMany m_planStrokes m_madeMany m_madeStrokes m_isClear m_isPlanned n_asked n_best n_chord n_itsEntry n_itsFirst n_kind n_lengthAhead n_lengthBehind n_made n_plan n_record n_strokeMany n_strokes n_taken n_tape n_text n_textMany n_texts n_trial n_tried n_two n_way n_wayMany n_wayStrokes g.1 g.2.1 g.2.2
set_option maxHeartbeats 4000000 in
set_option maxRecDepth 100000 in
theorem law_loop {p : Program} {l : Launch} {e : Env} {s : State} {m : MethodId} {below : List Frame} {meth : Method} {c : Code} {E : jE} {q : Nat → Nat} {b L N : Nat} {xs : Nat → Int32} (hN : 9000 ≤ N) (hL : L ≤ 4096) (C0 : lw_At p s m meth c b L xs) (hK : jK E (fun q : Nat => s.heap.size ≤ q) s) :
    ∀ (n i : Nat) (H : Heap) (locs : List Loc) (ls : Array Slot), i ≤ L → L + 1 ≤ i + n → lwS E q (fun q : Nat => s.heap.size ≤ q) H → va_S (fun q : Nat => s.heap.size ≤ q) s.heap H locs → lv_has ls 4 [(0, .ref b), (1, .ref (q 0)), (2, .ref (q 43)), (3, .int (nI i))] → W p l e room_1 s m #[Value.ref b] below meth c H locs 68 23753 (lw_Z below #[Value.ref b] s) (F0 m 18 ls []) := by
  obtain ⟨hx, hb, hr, hml, hown, hts0, hX, hbl, hlocks, hgv⟩ := C0
  have hts : ∀ w ∈ wsL_law, w.before #[Value.ref b] s = true := fun w h => hts0 w (wsL_law_in w h)
  replace hown : s.vm.findClass RL = some m.cls := hown
  have hA : ∀ q : Nat, s.heap.size ≤ q → (fun q : Nat => s.heap.size ≤ q) q := fun _ h => h
  have hbA : ¬ (fun q : Nat => s.heap.size ≤ q) b := Nat.not_le.mpr hbl
  have hf : 68 ≤ room_1.cells ∧ 23753 ≤ room_1.slots := ⟨Nat.le_of_ble_eq_true rfl, Nat.le_of_ble_eq_true rfl⟩
  intro n
  induction n with
  | zero =>
    intro i H locs ls h1 h2
    exact absurd h2 (by omega)
  | succ n ih =>
    intro i H locs ls hi hin hLS hS hl
    refine lv_iload_n hx hb dL_law_18 rfl (lv_at hl 3 rfl) ?_
    refine lv_aload_n hx hb dL_law_19 rfl (lv_at hl 0 rfl) ?_
    refine va_slen hx hb hX hbl hbA hS dL_law_20 ?_
    refine lv_bipush (v := 8) hx hb dL_law_21 (by decide) ?_
    refine lv_isub hx hb dL_law_23 ?_
    refine lv_icmp_gt (tgt := 711) hx hb dL_law_24 (by decide) (fun hq => ?_) (fun hq => ?_)
    · refine lv_iconst (v := 1) hx hb dL_law_711 (by decide) ?_
      refine va_forget (fun q hq => hS.2.2 q hq) ?_
      refine W.widen (k := 600000) (n := 7302250) (by omega) (by omega) ?_
      exact lw_ret hx hb hr hlocks dL_law_712
    · have hi8 : i + 8 ≤ L := ls_go hL hi hq
      have h_0 : vp_in (nI i) L := vp_in_nI (by omega) (by omega)
      have fin : ∀ (H1 : Heap) (locs1 : List Loc), lwS E q (fun q : Nat => s.heap.size ≤ q) H1 → va_S (fun q : Nat => s.heap.size ≤ q) s.heap H1 locs1 → W p l e room_1 s m #[Value.ref b] below meth c H1 locs1 68 23753 (lw_Z below #[Value.ref b] s) (F0 m 705 ls []) := by
        intro H1 locs1 hLS1 hS1
        refine lv_iinc (v := (nI i + 8)) (lv' := [(3, .int (nI i + 8)), (0, .ref b), (1, .ref (q 0)), (2, .ref (q 43))]) hx hb dL_law_705 hl (k := 3) rfl rfl (by decide) rfl (fun ls hl => ?_)
        refine lv_goto (tgt := 18) hx hb dL_law_708 (by decide) ?_
        rw [show nI i + 8 = nI (i + 8) from nI_add i 8] at hl
        exact ih (i + 8) _ _ _ (by omega) (by omega) hLS1 hS1 (lv_sub hl [1, 2, 3, 0] rfl)
      refine lv_aload_n hx hb dL_law_27 rfl (lv_at hl 0 rfl) ?_
      refine lv_iload_n hx hb dL_law_28 rfl (lv_at hl 3 rfl) ?_
      refine va_sld hx hb hX hbl hbA hS h_0 dL_law_29 ?_
      refine lv_bipush (v := 31) hx hb dL_law_30 (by decide) ?_
      refine lv_iand hx hb dL_law_32 ?_
      generalize (xs (nI i).toNatClampNeg &&& 31) = z
      refine lwS_elim hLS (fun c_tape_size c_entries_size c_record_size c_record_readSoFar c_page_size c_page_shift c_page_link c_page_lastWordLength c_page_lastWordVowels c_transcript_size c_transcript_raws c_transcript_settled c_transcript_chord_size c_planner_length c_planner_drafted c_planner_latestEntries c_planner_latestStrokes c_planner_latestClear c_planner_prefixed_innerKind c_planner_prefixed_lastKind c_planner_glued_innerKind c_planner_glued_lastKind c_planner_joined_word c_planner_joined_suffix c_planner_joined_trial_size c_planner_joined_trial_shift c_planner_joined_trial_link c_planner_joined_trial_lastWordLength c_planner_joined_trial_lastWordVowels c_planner_trial_size c_planner_trial_readSoFar c_runs_size c_runs_skipped c_chord_size a_chord_letters a_entries_kinds a_entries_lengths a_entries_letters a_entries_strokeCounts a_entries_strokes a_outline a_page_bytes a_planner_draft a_planner_glued_costs a_planner_glued_picks a_planner_joined_trial_bytes a_planner_latest a_planner_prefixed_costs a_planner_prefixed_picks a_planner_trial_entries a_planner_trial_firsts a_planner_trial_keys a_planner_words a_record_entries a_record_firsts a_record_keys a_runs_longer a_tape_bytes a_transcript_behinds a_transcript_chord_letters a_transcript_lasts a_transcript_owners m_taped m_entries m_recorded m_translations m_length m_shift m_link m_chordMany m_lastMany m_bestMany m_bestStrokes m_triedMany m_triedStrokes m_planMany m_planStrokes m_madeMany m_madeStrokes m_isClear m_isPlanned n_asked n_best n_chord n_itsEntry n_itsFirst n_kind n_lengthAhead n_lengthBehind n_made n_plan n_record n_strokeMany n_strokes n_taken n_tape n_text n_textMany n_texts n_trial n_tried n_two n_way n_wayMany n_wayStrokes hI hP hD => ?_)
      by_cases z0 : z = 0
      · refine lv_tableIn (off := 91) (tgt := 124) hx hb dL_law_33 (by rw [z0]; decide) (by rw [z0]; decide) (by rw [z0]; rfl) (by decide) ?_
        exact law_feed hN hx hb hml hown hts hK hA hX hbl hbA hf hL hi8 hS hl hI hP hD fin
      by_cases z1 : z = 1
      · refine lv_tableIn (off := 154) (tgt := 187) hx hb dL_law_33 (by rw [z1]; decide) (by rw [z1]; decide) (by rw [z1]; rfl) (by decide) ?_
        exact law_entry hN hx hb hml hown hts hK hA hX hbl hbA hf hL hi8 hS hl hI hP hD fin
      by_cases z2 : z = 2
      · refine lv_tableIn (off := 241) (tgt := 274) hx hb dL_law_33 (by rw [z2]; decide) (by rw [z2]; decide) (by rw [z2]; rfl) (by decide) ?_
        exact law_drop hN hx hb hml hown hts hK hA hX hbl hbA hf hL hi8 hS hl hI hP hD fin
      by_cases z3 : z = 3
      · refine lv_tableIn (off := 264) (tgt := 297) hx hb dL_law_33 (by rw [z3]; decide) (by rw [z3]; decide) (by rw [z3]; rfl) (by decide) ?_
        exact law_stroke hN hx hb hml hown hts hK hA hX hbl hbA hf hL hi8 hS hl hI hP hD fin
      by_cases z4 : z = 4
      · refine lv_tableIn (off := 287) (tgt := 320) hx hb dL_law_33 (by rw [z4]; decide) (by rw [z4]; decide) (by rw [z4]; rfl) (by decide) ?_
        exact law_back hN hx hb hml hown hts hK hA hX hbl hbA hf hL hi8 hS hl hI hP hD fin
      by_cases z5 : z = 5
      · refine lv_tableIn (off := 300) (tgt := 333) hx hb dL_law_33 (by rw [z5]; decide) (by rw [z5]; decide) (by rw [z5]; rfl) (by decide) ?_
        exact law_correct hN hx hb hml hown hts hK hA hX hbl hbA hf hL hi8 hS hl hI hP hD fin
      by_cases z6 : z = 6
      · refine lv_tableIn (off := 333) (tgt := 366) hx hb dL_law_33 (by rw [z6]; decide) (by rw [z6]; decide) (by rw [z6]; rfl) (by decide) ?_
        exact law_insert hN hx hb hml hown hts hK hA hX hbl hbA hf hL hi8 hS hl hI hP hD fin
      by_cases z7 : z = 7
      · refine lv_tableIn (off := 366) (tgt := 399) hx hb dL_law_33 (by rw [z7]; decide) (by rw [z7]; decide) (by rw [z7]; rfl) (by decide) ?_
        exact law_cut hN hx hb hml hown hts hK hA hX hbl hbA hf hL hi8 hS hl hI hP hD fin
      by_cases z8 : z = 8
      · refine lv_tableIn (off := 389) (tgt := 422) hx hb dL_law_33 (by rw [z8]; decide) (by rw [z8]; decide) (by rw [z8]; rfl) (by decide) ?_
        exact law_count hN hx hb hml hown hts hK hA hX hbl hbA hf hL hi8 hS hl hI hP hD fin
      by_cases z9 : z = 9
      · refine lv_tableIn (off := 412) (tgt := 445) hx hb dL_law_33 (by rw [z9]; decide) (by rw [z9]; decide) (by rw [z9]; rfl) (by decide) ?_
        exact law_told hN hx hb hml hown hts hK hA hX hbl hbA hf hL hi8 hS hl hI hP hD fin
      by_cases z10 : z = 10
      · refine lv_tableIn (off := 445) (tgt := 478) hx hb dL_law_33 (by rw [z10]; decide) (by rw [z10]; decide) (by rw [z10]; rfl) (by decide) ?_
        exact law_octet hN hx hb hml hown hts hK hA hX hbl hbA hf hL hi8 hS hl hI hP hD fin
      by_cases z11 : z = 11
      · refine lv_tableIn (off := 468) (tgt := 501) hx hb dL_law_33 (by rw [z11]; decide) (by rw [z11]; decide) (by rw [z11]; rfl) (by decide) ?_
        exact law_of hN hx hb hml hown hts hK hA hX hbl hbA hf hL hi8 hS hl hI hP hD fin
      by_cases z12 : z = 12
      · refine lv_tableIn (off := 491) (tgt := 524) hx hb dL_law_33 (by rw [z12]; decide) (by rw [z12]; decide) (by rw [z12]; rfl) (by decide) ?_
        exact law_written hN hx hb hml hown hts hK hA hX hbl hbA hf hL hi8 hS hl hI hP hD fin
      by_cases z13 : z = 13
      · refine lv_tableIn (off := 524) (tgt := 557) hx hb dL_law_33 (by rw [z13]; decide) (by rw [z13]; decide) (by rw [z13]; rfl) (by decide) ?_
        exact law_plan hN hx hb hml hown hts hK hA hX hbl hbA hf hL hi8 hS hl hI hP hD fin
      by_cases z14 : z = 14
      · refine lv_tableIn (off := 547) (tgt := 580) hx hb dL_law_33 (by rw [z14]; decide) (by rw [z14]; decide) (by rw [z14]; rfl) (by decide) ?_
        exact law_planned hN hx hb hml hown hts hK hA hX hbl hbA hf hL hi8 hS hl hI hP hD fin
      by_cases z15 : z = 15
      · refine lv_tableIn (off := 570) (tgt := 603) hx hb dL_law_33 (by rw [z15]; decide) (by rw [z15]; decide) (by rw [z15]; rfl) (by decide) ?_
        exact law_clear hN hx hb hml hown hts hK hA hX hbl hbA hf hL hi8 hS hl hI hP hD fin
      by_cases z16 : z = 16
      · refine lv_tableIn (off := 583) (tgt := 616) hx hb dL_law_33 (by rw [z16]; decide) (by rw [z16]; decide) (by rw [z16]; rfl) (by decide) ?_
        exact law_together hN hx hb hml hown hts hK hA hX hbl hbA hf hL hi8 hS hl hI hP hD fin
      by_cases z17 : z = 17
      · refine lv_tableIn (off := 616) (tgt := 649) hx hb dL_law_33 (by rw [z17]; decide) (by rw [z17]; decide) (by rw [z17]; rfl) (by decide) ?_
        exact law_pair hN hx hb hml hown hts hK hA hX hbl hbA hf hL hi8 hS hl hI hP hD fin
      by_cases z18 : z = 18
      · refine lv_tableIn (off := 639) (tgt := 672) hx hb dL_law_33 (by rw [z18]; decide) (by rw [z18]; decide) (by rw [z18]; rfl) (by decide) ?_
        exact law_book hN hx hb hml hown hts hK hA hX hbl hbA hf hL hi8 hS hl hI hP hD fin
      refine lv_tableOut (tgt := 705) hx hb dL_law_33 (j_tabout 0 18 (by decide) (fun k h1 h2 => by rcases (show k = 0 ∨ k = 1 ∨ k = 2 ∨ k = 3 ∨ k = 4 ∨ k = 5 ∨ k = 6 ∨ k = 7 ∨ k = 8 ∨ k = 9 ∨ k = 10 ∨ k = 11 ∨ k = 12 ∨ k = 13 ∨ k = 14 ∨ k = 15 ∨ k = 16 ∨ k = 17 ∨ k = 18 by omega) with rfl | rfl | rfl | rfl | rfl | rfl | rfl | rfl | rfl | rfl | rfl | rfl | rfl | rfl | rfl | rfl | rfl | rfl | rfl <;> first | exact z0 | exact z1 | exact z2 | exact z3 | exact z4 | exact z5 | exact z6 | exact z7 | exact z8 | exact z9 | exact z10 | exact z11 | exact z12 | exact z13 | exact z14 | exact z15 | exact z16 | exact z17 | exact z18)) (by decide) ?_
      exact fin _ _ hLS hS
