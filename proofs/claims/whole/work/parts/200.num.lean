/-! numbers of the pure layer -/
theorem p_lit (n : Nat) : (no_index (OfNat.ofNat n) : Int32) = nI n := rfl
theorem p_ga {α : Type} {j n : Nat} {k : Option α} (h : j < n) (hn : n < 2147483648) : jga (nI j) n k = k := by
  unfold jga
  rw [if_neg (nI_in h hn)]
theorem p_le {a b : Nat} (ha : a < 2147483648) (hb : b < 2147483648) : (nI a ≤ nI b) = (a ≤ b) := propext (nI_leI ha hb)
theorem p_lt {a b : Nat} (ha : a < 2147483648) (hb : b < 2147483648) : (nI a < nI b) = (a < b) := propext (nI_ltI ha hb)
theorem p_eq {a b : Nat} (ha : a < 2147483648) (hb : b < 2147483648) : (nI a = nI b) = (a = b) := propext (nI_eq ha hb)
theorem p_cl {n : Nat} (h : n < 2147483648) : (nI n).toNatClampNeg = n := nI_clamp h
theorem p_sub {a b : Nat} (h : b ≤ a) : nI a - nI b = nI (a - b) := pk_sub h
def jM1 : Int32 := -1
theorem p_neg1 : (-1 : Int32) = jM1 := rfl
theorem p_m1 {n : Nat} (h : n < 2147483648) : (nI n = jM1) = False := by
  refine eq_false fun q => ?_
  have h1 := nI_toInt h
  rw [q] at h1
  have h2 : jM1.toInt = -1 := by decide
  omega
theorem p_m1b {n : Nat} (h : n < 2147483648) : (jM1 = nI n) = False := by
  refine eq_false fun q => ?_
  have := p_m1 h
  rw [← q] at this
  exact cast this rfl
theorem p_m1lt {n : Nat} (h : n < 2147483648) : (jM1 < nI n) = True := by
  refine eq_true ?_
  rw [Int32.lt_iff_toInt_lt, nI_toInt h]
  have h2 : jM1.toInt = -1 := by decide
  omega
theorem p_m1ge {n : Nat} (h : n < 2147483648) : (nI n ≤ jM1) = False := by
  refine eq_false fun q => ?_
  rw [Int32.le_iff_toInt_le, nI_toInt h] at q
  have h2 : jM1.toInt = -1 := by decide
  omega
theorem p_dec {n : Nat} (h : 0 < n) : nI n + jM1 = nI (n - 1) := sb_m1 h
theorem p_dec0 : nI 0 + jM1 = jM1 := by decide
theorem p_sub0 : nI 0 - nI 1 = jM1 := by decide
/-- an int against a bound: below 0, too large, or a number below it -/
theorem p_ix (x : Int32) {n : Nat} (hn : n < 2147483648) : x < 0 ∨ nI n ≤ x ∧ ¬ x < 0 ∨ ∃ j : Nat, j < n ∧ x = nI j := by
  rcases pk_ix x hn with h | h | h
  · exact Or.inl h
  · by_cases h0 : x < 0
    · exact Or.inl h0
    · exact Or.inr (Or.inl ⟨h, h0⟩)
  · exact Or.inr (Or.inr h)
theorem p_s1 {n : Nat} (h : 0 < n) : nI n - 1 = nI (n - 1) := p_sub (b := 1) h
theorem p_d1 {n : Nat} (h : 0 < n) : nI n + (-1) = nI (n - 1) := sb_m1 h
theorem p_nle {a b : Nat} (h : b < a) (ha : a < 2147483648) : ¬ nI a ≤ nI b := nI_ge h ha
theorem p_nlt {a b : Nat} (h : b ≤ a) (ha : a < 2147483648) : ¬ nI a < nI b := nI_nlt h ha
theorem p_yle {a b : Nat} (h : a ≤ b) (hb : b < 2147483648) : nI a ≤ nI b := nI_le h hb
theorem p_ylt {a b : Nat} (h : a < b) (hb : b < 2147483648) : nI a < nI b := nI_lt h hb
theorem p_ne {a b : Nat} (h : a ≠ b) (ha : a < 2147483648) (hb : b < 2147483648) : ¬ nI a = nI b := fun q => h ((nI_eq ha hb).mp q)
theorem p_n0 {n : Nat} (h : n < 2147483648) : ¬ nI n < 0 := nI_pos h
def jby (x : Int32) (j : Nat) : Int32 := (x >>> (nI j &&& nI 31)).toInt8.toInt32
/-- a byte as an int -/
def isB (x : Int32) : Prop := x.toInt8.toInt32 = x
theorem isB_of (x : Int32) : isB x.toInt8.toInt32 := by
  have := pk_vb x
  rw [vp_nar_byte] at this
  exact this
theorem p_upd_s {f : Nat → Int32} {k : Nat} {x : Int32} : upd f k x k = x := pk_us
theorem p_upd_n {f : Nat → Int32} {k j : Nat} {x : Int32} (h : j ≠ k) : upd f k x j = f j := pk_un h
