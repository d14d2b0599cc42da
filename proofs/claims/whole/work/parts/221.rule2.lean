/-! the rules of joining, both sides -/
theorem cv_mono (l : List Int32) : ∀ (d c : Nat), cv l c ≤ cv l (c + d) := by
  intro d
  induction d with
  | zero => intro c; exact Nat.le_refl _
  | succ d ih =>
    intro c
    have := ih c
    rw [show c + (d + 1) = (c + d) + 1 by omega, cv]
    omega
theorem cv_same (l : List Int32) : ∀ (d c : Nat), (cv l (c + d) = cv l c ↔ ∀ j, c ≤ j → j < c + d → ¬ vwB (smF (fe l j)) = true) := by
  intro d
  induction d with
  | zero => intro c; exact ⟨fun _ j h1 h2 => by omega, fun _ => rfl⟩
  | succ d ih =>
    intro c
    have hm := cv_mono l d c
    rw [show c + (d + 1) = (c + d) + 1 by omega, cv]
    constructor
    · intro h j h1 h2
      by_cases hv : vwB (smF (fe l (c + d))) = true
      · rw [if_pos hv] at h
        omega
      · rw [if_neg hv] at h
        by_cases e : j = c + d
        · rw [e]; exact hv
        · exact (ih c).mp (by omega) j h1 (by omega)
    · intro h
      rw [if_neg (h (c + d) (by omega) (by omega))]
      have := (ih c).mpr (fun j h1 h2 => h j h1 (by omega))
      omega
theorem cv_one {l : List Int32} {n : Nat} (hn : 2 ≤ n) (h1 : vwB (smF (fe l 1)) = true) : cv l n = 1 ↔ ¬ vwB (smF (fe l 0)) = true ∧ ∀ j, 2 ≤ j → j < n → ¬ vwB (smF (fe l j)) = true := by
  have e2 : cv l 2 = (if vwB (smF (fe l 0)) = true then 1 else 0) + 1 := by
    rw [cv, cv, cv, if_pos h1]
    omega
  have hs := cv_same l (n - 2) 2
  rw [show 2 + (n - 2) = n by omega] at hs
  have hm := cv_mono l (n - 2) 2
  rw [show 2 + (n - 2) = n by omega] at hm
  by_cases h0 : vwB (smF (fe l 0)) = true
  · rw [if_pos h0] at e2
    exact ⟨fun h => by omega, fun h => absurd h0 h.1⟩
  · rw [if_neg h0] at e2
    constructor
    · intro h
      exact ⟨h0, hs.mp (by omega)⟩
    · intro h
      have := hs.mpr h.2
      omega
def w1 (l : List Int32) (n : Nat) : Int32 := if 1 < n then smF (fe l 1) else 0
/-- the rule by which a suffix that begins by x is joined -/
def rl (l : List Int32) (n : Nat) (x : Int32) (s : Bool) : Int32 :=
  if smF (fe l 0) = 121 ∧ 2 ≤ n ∧ ¬ vwB (w1 l n) = true ∧ ¬ x = 105 then 1
  else if s = true ∧ hsB (smF (fe l 0)) (w1 l n) = true then 2
  else if ¬ vwB x = true then 5
  else if smF (fe l 0) = 101 ∧ 2 ≤ n ∧ ¬ w1 l n = 101 ∧ ¬ w1 l n = 111 ∧ ¬ w1 l n = 121 then 3
  else if 3 ≤ n ∧ ¬ smF (fe l 0) = 119 ∧ ¬ smF (fe l 0) = 120 ∧ ¬ smF (fe l 0) = 121 ∧ vwB (w1 l n) = true ∧ cv l n = 1 then 4 else 5
theorem hsB_m1 (a : Int32) : hsB a (-1) = hsB a 0 := by
  unfold hsB
  simp
theorem cRule_ok {l : List Int32} {n L : Nat} {x : Int32} {s : Bool} (hn : 1 ≤ n) (hn7 : n ≤ 8000) (hL : L ≤ n) (h3 : L = n ∨ (3 ≤ L ∧ (if vwB x = true then 2 else 0) ≤ cv l L)) : jf_Page_ruleFor (smF (fe l 0)) (if 1 < L then smF (fe l 1) else -1) x (if s = true then 1 else 0) (nI L) (nI (cv l L)) = some (if rl l n x s = 5 then 0 else rl l n x s) := by
  have hcv := cv_le l L
  have hL2 : (nI L < 2) = ¬ 2 ≤ n := by
    rw [show (2 : Int32) = nI 2 from rfl, p_lt (by omega) (by omega)]
    exact propext ⟨fun h => by omega, fun h => by omega⟩
  have hL3 : (nI L < 3) = ¬ 3 ≤ n := by
    rw [show (3 : Int32) = nI 3 from rfl, p_lt (by omega) (by omega)]
    exact propext ⟨fun h => by omega, fun h => by omega⟩
  have hV : vwB x = true → ((nI (cv l L) = 1) = (cv l n = 1)) := by
    intro hx
    rw [if_pos hx] at h3
    rw [show (1 : Int32) = nI 1 from rfl, p_eq (by omega) (by omega)]
    rcases h3 with e | ⟨e1, e2⟩
    · rw [e]
    · have hm := cv_mono l (n - L) L
      rw [show L + (n - L) = n by omega] at hm
      exact propext ⟨fun h => by omega, fun h => by omega⟩
  have hs0 : (¬ (if s = true then (1 : Int32) else 0) = 0) = (s = true) := by
    cases s with
    | true => exact propext ⟨fun _ => rfl, fun _ => by decide⟩
    | false => exact propext ⟨fun h => absurd rfl h, fun h => by cases h⟩
  rw [cRule, r44]
  unfold rl
  by_cases h1 : 1 < n
  · have hb : (if 1 < L then smF (fe l 1) else (-1 : Int32)) = w1 l n := by
      unfold w1
      rw [if_pos (by omega), if_pos h1]
    rw [hb]
    simp only [hL2, hL3, hs0, Classical.not_not]
    by_cases c1 : smF (fe l 0) = 121 ∧ 2 ≤ n ∧ ¬ vwB (w1 l n) = true ∧ ¬ x = 105
    · rw [if_pos c1, if_pos c1, if_neg (by decide)]
    · rw [if_neg c1, if_neg c1]
      by_cases c2 : s = true ∧ hsB (smF (fe l 0)) (w1 l n) = true
      · rw [if_pos c2, if_pos c2, if_neg (by decide)]
      · rw [if_neg c2, if_neg c2]
        by_cases c3 : vwB x = true
        · simp only [hV c3, c3, not_true_eq_false, if_false]
          by_cases c4 : smF (fe l 0) = 101 ∧ 2 ≤ n ∧ ¬ w1 l n = 101 ∧ ¬ w1 l n = 111 ∧ ¬ w1 l n = 121
          · rw [if_pos c4, if_pos c4, if_neg (by decide)]
          · rw [if_neg c4, if_neg c4]
            by_cases c5 : 3 ≤ n ∧ ¬ smF (fe l 0) = 119 ∧ ¬ smF (fe l 0) = 120 ∧ ¬ smF (fe l 0) = 121 ∧ vwB (w1 l n) = true ∧ cv l n = 1
            · rw [if_pos c5, if_pos c5, if_neg (by decide)]
            · rw [if_neg c5, if_neg c5, if_pos rfl]
        · rw [if_pos c3, if_pos c3, if_pos rfl]
  · have hb : (if 1 < L then smF (fe l 1) else (-1 : Int32)) = -1 := if_neg (by omega)
    have hw : w1 l n = 0 := if_neg h1
    rw [hb, hw, hsB_m1]
    simp only [hL2, hL3, hs0, Classical.not_not]
    rw [if_neg (fun q : smF (fe l 0) = 121 ∧ 2 ≤ n ∧ ¬ vwB (-1) = true ∧ ¬ x = 105 => by omega), if_neg (fun q : smF (fe l 0) = 121 ∧ 2 ≤ n ∧ ¬ vwB 0 = true ∧ ¬ x = 105 => by omega)]
    by_cases c2 : s = true ∧ hsB (smF (fe l 0)) 0 = true
    · rw [if_pos c2, if_pos c2, if_neg (by decide)]
    · rw [if_neg c2, if_neg c2]
      by_cases c3 : vwB x = true
      · simp only [c3, not_true_eq_false, if_false]
        rw [if_neg (fun q : smF (fe l 0) = 101 ∧ 2 ≤ n ∧ _ => by omega), if_neg (fun q : 3 ≤ n ∧ _ => by omega), if_neg (fun q : smF (fe l 0) = 101 ∧ 2 ≤ n ∧ _ => by omega), if_neg (fun q : 3 ≤ n ∧ _ => by omega), if_pos rfl]
      · rw [if_pos c3, if_pos c3, if_pos rfl]
