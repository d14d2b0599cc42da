/-! the text of a stack of translations -/
theorem txt7_nil : txt7 [] := fun x h => by cases h
theorem txt7_app {l m : List Int32} (h1 : txt7 l) (h2 : txt7 m) : txt7 (l ++ m) := fun x h => (List.mem_append.mp h).elim (h1 x) (h2 x)
theorem txt7_one {v : Int32} {m : Nat} (hm : m < 128) (e : v = nI m) : txt7 [v] := fun x h => ⟨m, hm, by rw [List.mem_singleton.mp h]; exact e⟩
theorem txt7_drop {l : List Int32} (h : txt7 l) : txt7 l.dropLast := fun x hx => h x (List.dropLast_subset l hx)
theorem txt7_blk {l : List Int32} {lk : Int32} (h : txt7 l) : txt7 (blkL l lk) := by
  unfold blkL
  split
  · exact txt7_app h (txt7_one (m := 32) (by omega) rfl)
  · exact h
theorem txt7_wl {g : Nat → Int32} : ∀ (d i : Nat), (∀ j, i ≤ j → j < i + d → ∃ m, m < 128 ∧ g j = nI m) → txt7 (wl g d i) := by
  intro d
  induction d with
  | zero => intro i _; exact txt7_nil
  | succ d ih =>
    intro i h x hx
    rw [wl] at hx
    rcases List.mem_cons.mp hx with e | e
    · obtain ⟨m, hm, e2⟩ := h i (Nat.le_refl i) (by omega)
      exact ⟨m, hm, by rw [e]; exact e2⟩
    · exact ih (i + 1) (fun j q1 q2 => h j (by omega) (by omega)) x e
theorem key_7 : ∀ i, i < 22 → ∃ m, m < 128 ∧ jKey i = nI m := by
  intro i hi
  have : ∀ i, i < 22 → (jKey i).toNatClampNeg < 128 ∧ jKey i = nI (jKey i).toNatClampNeg := by decide +kernel
  exact ⟨_, this i hi⟩
theorem msp_7 {b : Nat → Bool} {x : Bool} : ∀ (d key : Nat), key + d = 22 → txt7 (msp b x d key) := by
  intro d
  induction d with
  | zero => intro key _; exact txt7_nil
  | succ d ih =>
    intro key hk
    rw [msp]
    refine txt7_app ?_ (txt7_app ?_ (ih (key + 1) (by omega)))
    · split
      · exact txt7_one (m := 45) (by omega) rfl
      · exact txt7_nil
    · split
      · obtain ⟨m, hm, e⟩ := key_7 key (by omega)
        exact txt7_one hm e
      · exact txt7_nil
theorem chd_7 (v : Int32) : txt7 (chd v) := msp_7 22 0 (by omega)
theorem sm_7 {v : Int32} (h : isSm v) : ∃ m, m < 128 ∧ v = nI m := by
  obtain ⟨m, h1, h2, e⟩ := isSm_nI h
  exact ⟨m, by omega, e⟩
theorem cap_7 {v sh : Int32} {i : Nat} (h : isSm v) : ∃ m, m < 128 ∧ capF sh i v = nI m := by
  obtain ⟨m, h1, h2, rfl⟩ := isSm_nI h
  unfold capF
  split
  · exact ⟨m - 32, by omega, p_sub (b := 32) (by omega)⟩
  · exact ⟨m, by omega, rfl⟩
theorem smF_7 {l : List Int32} (h : txt7 l) (hl : 0 < l.length) : ∃ m, m < 128 ∧ smF (fe l 0) = nI m := by
  obtain ⟨m, hm, e⟩ := fe_7 h hl
  rw [e]
  have : ∀ m, m < 128 → (smF (nI m)).toNatClampNeg < 128 ∧ smF (nI m) = nI (smF (nI m)).toNatClampNeg := by decide +kernel
  exact ⟨_, this m hm⟩
theorem jn_7 {l : List Int32} {n : Nat} {x : Int32} {s : Bool} (h : txt7 l) (hl : 0 < l.length) : txt7 (jn l n x s) := by
  have h105 : txt7 [(105 : Int32)] := txt7_one (m := 105) (by omega) rfl
  have h101 : txt7 [(101 : Int32)] := txt7_one (m := 101) (by omega) rfl
  unfold jn
  split
  · split
    · exact txt7_app (txt7_app (txt7_drop h) h105) h101
    · exact txt7_app (txt7_drop h) h105
  · split
    · exact txt7_app h h101
    · split
      · exact txt7_drop h
      · split
        · obtain ⟨m, hm, e⟩ := smF_7 h hl
          exact txt7_app h (txt7_one hm e)
        · exact h
section TX
variable {N ne : Nat} {kd : Nat → Int32} {sc : Nat → Nat} {st : Nat → Int32} {ln : Nat → Nat} {tx row : Nat → Int32}
theorem wrE_ok {k : Nat} {bg : Bool} {l : List Int32} {sh lk : Int32} (hV : bkV ne kd sc st ln tx) (hk : k < ne) (h7 : txt7 l) : txt7 (wrE kd ln tx k bg l sh lk).1 ∧ (wrE kd ln tx k bg l sh lk).1.length ≤ l.length + 23 := by
  have h16 := bk_len hV hk
  have hbl := blkL_len l lk
  have hWl : (wW ln tx k sh).length = ln k := wl_len _ _ _
  have hW7 : (¬ kd k = 3) → (¬ kd k = 4) → txt7 (wW ln tx k sh) := fun h3 h4 => txt7_wl _ _ (fun j _ q => cap_7 (bk_sm hV hk h3 h4 (by omega)))
  have hword : (¬ kd k = 3) → (¬ kd k = 4) → txt7 (blkL l lk ++ wW ln tx k sh) ∧ (blkL l lk ++ wW ln tx k sh).length ≤ l.length + 23 := by
    intro h3 h4
    refine ⟨txt7_app (txt7_blk h7) (hW7 h3 h4), ?_⟩
    rw [List.length_append]
    omega
  have hmark : (kd k = 3 ∨ kd k = 4) → ln k = 1 → txt7 (l ++ [tx (16 * k)]) ∧ (l ++ [tx (16 * k)]).length ≤ l.length + 23 := by
    intro h34 h1
    obtain ⟨m, hm, e⟩ := bk_mark (i := 0) hV hk h34 (by omega)
    exact ⟨txt7_app h7 (txt7_one hm e), by rw [List.length_append, List.length_singleton]; omega⟩
  rcases bk_kind hV hk with ⟨h, h1⟩ | ⟨h, h1⟩ | ⟨h, h1⟩ | ⟨h, h1⟩ | ⟨h, h1⟩ | ⟨h, h1⟩ | ⟨h, h1⟩ | ⟨h, h1⟩ | ⟨h, h1⟩
  · unfold wrE
    rw [h, if_pos rfl]
    exact hword (by rw [h]; decide) (by rw [h]; decide)
  · unfold wrE
    rw [h, if_neg (by decide), if_pos rfl]
    exact hword (by rw [h]; decide) (by rw [h]; decide)
  · unfold wrE
    rw [h, if_neg (by decide), if_neg (by decide), if_pos rfl]
    by_cases hz : twn l = 0
    · rw [if_pos hz]
      exact hword (by rw [h]; decide) (by rw [h]; decide)
    · rw [if_neg hz]
      have hl := (twn_ok l).1
      refine ⟨txt7_app (jn_7 h7 (by omega)) (txt7_wl _ _ (fun j _ q => sm_7 (bk_sm hV hk (by rw [h]; decide) (by rw [h]; decide) (by omega)))), ?_⟩
      have := jn_len (l := l) (n := twn l) (x := tx (16 * k)) (s := isS k (ln k) tx) (by omega)
      show (sfx l (twn l) k (ln k) tx).length ≤ _
      rw [sfx, List.length_append, wl_len]
      omega
  · unfold wrE
    rw [h, if_neg (by decide), if_neg (by decide), if_neg (by decide), if_pos rfl]
    exact hmark (Or.inl h) h1
  · unfold wrE
    rw [h, if_neg (by decide), if_neg (by decide), if_neg (by decide), if_neg (by decide), if_pos rfl]
    exact hmark (Or.inr h) h1
  · rw [wrE5 h]
    cases bg with
    | true =>
      rw [if_pos rfl]
      refine ⟨txt7_app h7 (hW7 (by rw [h]; decide) (by rw [h]; decide)), ?_⟩
      rw [List.length_append]
      omega
    | false =>
      rw [if_neg (by decide)]
      exact hword (by rw [h]; decide) (by rw [h]; decide)
  · unfold wrE
    rw [h, if_neg (by decide), if_neg (by decide), if_neg (by decide), if_neg (by decide), if_neg (by decide), if_neg (by decide), if_pos rfl]
    exact ⟨h7, Nat.le_add_right _ _⟩
  · unfold wrE
    rw [h, if_neg (by decide), if_neg (by decide), if_neg (by decide), if_neg (by decide), if_neg (by decide), if_neg (by decide), if_neg (by decide), if_pos rfl]
    exact ⟨h7, Nat.le_add_right _ _⟩
  · unfold wrE
    rw [h, if_neg (by decide), if_neg (by decide), if_neg (by decide), if_neg (by decide), if_neg (by decide), if_neg (by decide), if_neg (by decide), if_neg (by decide)]
    exact ⟨h7, Nat.le_add_right _ _⟩
/-- is the last translation GLUE -/
def bgl (kd : Nat → Int32) : List (Nat × Option Nat) → Bool
  | (_, some k) :: _ => decide (kd k = 5)
  | _ => false
noncomputable def txs (kd : Nat → Int32) (ln : Nat → Nat) (tx row : Nat → Int32) : List (Nat × Option Nat) → List Int32 × Int32 × Int32
  | [] => ([], 0, 0)
  | (f, none) :: rest => (blkL (txs kd ln tx row rest).1 (txs kd ln tx row rest).2.2 ++ chd (row f), (txs kd ln tx row rest).2.1, 0)
  | (_, some k) :: rest => wrE kd ln tx k (bgl kd rest) (txs kd ln tx row rest).1 (txs kd ln tx row rest).2.1 (txs kd ln tx row rest).2.2
def rws : List (Nat × Option Nat) → Nat
  | [] => 0
  | (_, none) :: rest => rws rest + 1
  | (_, some _) :: rest => rws rest
theorem rws_len : ∀ l : List (Nat × Option Nat), rws l ≤ l.length := by
  intro l
  induction l with
  | nil => exact Nat.le_refl 0
  | cons q l ih =>
    obtain ⟨f, e⟩ := q
    cases e with
    | none => rw [rws, List.length_cons]; omega
    | some k => rw [rws, List.length_cons]; omega
theorem txs_ok (hV : bkV ne kd sc st ln tx) {n : Nat} (hn : n ≤ 300) (hst : ∀ i, i < n → isSt (row i)) : ∀ (c : Nat), c ≤ n → txt7 (txs kd ln tx row (RD ne sc st row c)).1 ∧ (txs kd ln tx row (RD ne sc st row c)).1.length ≤ 23 * (RD ne sc st row c).length := by
  intro c
  induction c using Nat.strongRecOn with
  | _ c ih =>
    intro hc
    rcases Nat.eq_zero_or_pos c with h0 | h0
    · subst h0
      rw [RD, txs]
      exact ⟨txt7_nil, Nat.le_refl 0⟩
    · obtain ⟨f, e, hf, hR⟩ := RD_top (ne := ne) (sc := sc) (st := st) (row := row) h0
      obtain ⟨i1, i2⟩ := ih f hf (by omega)
      rw [hR]
      cases e with
      | none =>
        rw [txs]
        obtain ⟨-, hlen⟩ := chd_ok (hst f (by omega))
        have hb := blkL_len (txs kd ln tx row (RD ne sc st row f)).1 (txs kd ln tx row (RD ne sc st row f)).2.2
        refine ⟨txt7_app (txt7_blk i1) (chd_7 _), ?_⟩
        rw [List.length_append, List.length_cons]
        omega
      | some k =>
        rw [txs]
        obtain ⟨m, rfl⟩ : ∃ m, c = m + 1 := ⟨c - 1, by omega⟩
        obtain ⟨w1, w2⟩ := wrE_ok (bg := bgl kd (RD ne sc st row f)) (sh := (txs kd ln tx row (RD ne sc st row f)).2.1) (lk := (txs kd ln tx row (RD ne sc st row f)).2.2) hV (RD_ent hR) i1
        refine ⟨w1, ?_⟩
        rw [List.length_cons]
        omega
/-- the translation behind those ahead of c -/
theorem sts_next : ∀ (n c : Nat), c ∈ sts ne sc st row n → c ≠ n → ∃ m e, m ∈ sts ne sc st row n ∧ RD ne sc st row m = (c, e) :: RD ne sc st row c ∧ c < m ∧ m ≤ n := by
  intro n
  induction n using Nat.strongRecOn with
  | _ n ih =>
    intro c hc hcn
    rcases Nat.eq_zero_or_pos n with h0 | h0
    · subst h0
      rw [sts_0] at hc
      exact absurd (List.mem_singleton.mp hc) hcn
    · obtain ⟨f, e, hf, hR⟩ := RD_top (ne := ne) (sc := sc) (st := st) (row := row) h0
      have hs := sts_c hR
      rw [hs] at hc
      rcases List.mem_cons.mp hc with q | q
      · exact absurd q hcn
      · by_cases hcf : c = f
        · subst hcf
          exact ⟨n, e, sts_self, hR, hf, Nat.le_refl n⟩
        · obtain ⟨m, e', h1, h2, h3, h4⟩ := ih f hf c q hcf
          exact ⟨m, e', by rw [hs]; exact List.mem_cons_of_mem _ h1, h2, h3, by omega⟩
theorem sts_tail : ∀ (n c : Nat), c ∈ sts ne sc st row n → ∃ l1, RD ne sc st row n = l1 ++ RD ne sc st row c := by
  intro n
  induction n using Nat.strongRecOn with
  | _ n ih =>
    intro c hc
    rcases Nat.eq_zero_or_pos n with h0 | h0
    · subst h0
      rw [sts_0] at hc
      rw [List.mem_singleton.mp hc]
      exact ⟨[], rfl⟩
    · obtain ⟨f, e, hf, hR⟩ := RD_top (ne := ne) (sc := sc) (st := st) (row := row) h0
      rw [sts_c hR] at hc
      rcases List.mem_cons.mp hc with q | q
      · exact ⟨[], by rw [q]; rfl⟩
      · obtain ⟨l1, h1⟩ := ih f hf c q
        exact ⟨(f, e) :: l1, by rw [hR, h1]; rfl⟩
theorem sts_zero : ∀ (n : Nat), 0 ∈ sts ne sc st row n := by
  intro n
  induction n using Nat.strongRecOn with
  | _ n ih =>
    rcases Nat.eq_zero_or_pos n with h0 | h0
    · subst h0
      exact sts_self
    · obtain ⟨f, e, hf, hR⟩ := RD_top (ne := ne) (sc := sc) (st := st) (row := row) h0
      rw [sts_c hR]
      exact List.mem_cons_of_mem _ (ih f hf)
/-- every translation has its place -/
theorem sts_at : ∀ (n t : Nat), t < (RD ne sc st row n).length → ∃ c m e, m ∈ sts ne sc st row n ∧ RD ne sc st row m = (c, e) :: RD ne sc st row c ∧ (RD ne sc st row c).length = t ∧ c < m ∧ m ≤ n := by
  intro n
  induction n using Nat.strongRecOn with
  | _ n ih =>
    intro t ht
    rcases Nat.eq_zero_or_pos n with h0 | h0
    · subst h0
      rw [RD] at ht
      exact absurd ht (Nat.not_lt_zero t)
    · obtain ⟨f, e, hf, hR⟩ := RD_top (ne := ne) (sc := sc) (st := st) (row := row) h0
      by_cases htf : t = (RD ne sc st row f).length
      · exact ⟨f, n, e, sts_self, hR, htf.symm, hf, Nat.le_refl n⟩
      · rw [hR, List.length_cons] at ht
        obtain ⟨c, m, e', h1, h2, h3, h4, h5⟩ := ih f hf t (by omega)
        exact ⟨c, m, e', by rw [sts_c hR]; exact List.mem_cons_of_mem _ h1, h2, h3, h4, by omega⟩
theorem sts_len {n c : Nat} (h : c ∈ sts ne sc st row n) : (RD ne sc st row c).length ≤ (RD ne sc st row n).length ∧ (c ≠ n → (RD ne sc st row c).length < (RD ne sc st row n).length) := by
  constructor
  · obtain ⟨l1, h1⟩ := sts_tail n c h
    rw [h1, List.length_append]
    omega
  · intro hcn
    obtain ⟨m, e, h1, h2, h3, h4⟩ := sts_next n c h hcn
    obtain ⟨l1, h5⟩ := sts_tail n m h1
    rw [h5, List.length_append, h2, List.length_cons]
    omega
/-- lengths of the text ahead of and behind the translations -/
def lbk (ne : Nat) (kd : Nat → Int32) (sc : Nat → Nat) (st : Nat → Int32) (ln : Nat → Nat) (tx row : Nat → Int32) (lb : Nat → Int32) (n : Nat) : Prop := ∀ c m e, m ∈ sts ne sc st row n → RD ne sc st row m = (c, e) :: RD ne sc st row c → lb (RD ne sc st row c).length = nI (txs kd ln tx row (RD ne sc st row m)).1.length
def lah (ne : Nat) (kd : Nat → Int32) (sc : Nat → Nat) (st : Nat → Int32) (ln : Nat → Nat) (tx row : Nat → Int32) (la : Nat → Int32) (n : Nat) : Prop := ∀ c m e, m ∈ sts ne sc st row n → RD ne sc st row m = (c, e) :: RD ne sc st row c → la (RD ne sc st row c).length = nI (txs kd ln tx row (RD ne sc st row c)).1.length
theorem lbk_0 {lb : Nat → Int32} : lbk ne kd sc st ln tx row lb 0 := by
  intro c m e hm hR
  rw [sts_0] at hm
  rw [List.mem_singleton.mp hm, RD] at hR
  cases hR
theorem lah_0 {lb : Nat → Int32} : lah ne kd sc st ln tx row lb 0 := by
  intro c m e hm hR
  rw [sts_0] at hm
  rw [List.mem_singleton.mp hm, RD] at hR
  cases hR
theorem lbk_next {lb : Nat → Int32} {c m : Nat} {e : Option Nat} (h : lbk ne kd sc st ln tx row lb c) (hR : RD ne sc st row m = (c, e) :: RD ne sc st row c) : lbk ne kd sc st ln tx row (upd lb (RD ne sc st row c).length (nI (txs kd ln tx row (RD ne sc st row m)).1.length)) m := by
  intro c' m' e' hm' hR'
  rw [sts_c hR] at hm'
  rcases List.mem_cons.mp hm' with q | q
  · subst q
    rw [hR'] at hR
    injection hR with q1 q2
    injection q1 with q3 q4
    subst q3
    rw [p_upd_s]
  · have hl := (sts_len q).1
    rw [hR', List.length_cons] at hl
    rw [p_upd_n (by omega)]
    exact h c' m' e' q hR'
theorem lah_next {la : Nat → Int32} {c m : Nat} {e : Option Nat} (h : lah ne kd sc st ln tx row la c) (hR : RD ne sc st row m = (c, e) :: RD ne sc st row c) : lah ne kd sc st ln tx row (upd la (RD ne sc st row c).length (nI (txs kd ln tx row (RD ne sc st row c)).1.length)) m := by
  intro c' m' e' hm' hR'
  rw [sts_c hR] at hm'
  rcases List.mem_cons.mp hm' with q | q
  · subst q
    rw [hR'] at hR
    injection hR with q1 q2
    injection q1 with q3 q4
    subst q3
    rw [p_upd_s]
  · have hl := (sts_len q).1
    rw [hR', List.length_cons] at hl
    rw [p_upd_n (by omega)]
    exact h c' m' e' q hR'
end TX
