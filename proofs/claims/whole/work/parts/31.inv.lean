/-! ===== part 31: what holds between calls; questions that both ask ===== -/
/-- how many cells -/
def i_ce (a b : Int32) : Int := (a * b).toInt
def N_land (a b a' b' : Int32) (r c : Nat → Int32) : Prop := a = a' ∧ b = b' ∧ 1 ≤ a'.toInt ∧ a'.toInt ≤ 5 ∧ 1 ≤ b'.toInt ∧ b'.toInt ≤ 5 ∧ ∀ k : Nat, (k : Int) < i_ce a' b' → (r k).toInt = k / b'.toInt ∧ (c k).toInt = k % b'.toInt
def N_may (s c z : Nat → Int32) (wet frost ear guess : Int32) (y : Nat → Int32) : Prop := (∀ k : Nat, k < 25 → s k = y k ∧ 0 ≤ (y k).toInt ∧ (y k).toInt ≤ 9) ∧ (∀ k : Nat, k < 25 → c k = y (25 + k) ∧ 0 ≤ (y (25 + k)).toInt ∧ (y (25 + k)).toInt ≤ 99) ∧ (∀ k : Nat, k < 6 → z k = y (50 + k) ∧ 0 ≤ (y (50 + k)).toInt ∧ (y (50 + k)).toInt ≤ 9) ∧ wet = y 56 ∧ 0 ≤ (y 56).toInt ∧ (y 56).toInt ≤ 9 ∧ frost = y 57 ∧ 0 ≤ (y 57).toInt ∧ (y 57).toInt ≤ 1 ∧ ear = y 58 ∧ 0 ≤ (y 58).toInt ∧ (y 58).toInt ≤ 99 ∧ guess = y 59 ∧ 0 ≤ (y 59).toInt ∧ (y 59).toInt ≤ 9
def N_bell (n n' : Int32) (c m k c' m' k' : Nat → Int32) (ce : Int) : Prop := n = n' ∧ 0 ≤ n'.toInt ∧ n'.toInt ≤ 6 ∧ (∀ b : Nat, b < 6 → c b = c' b ∧ m b = m' b ∧ k b = k' b) ∧ (∀ b : Nat, (b : Int) < n'.toInt → 0 ≤ (c' b).toInt ∧ (c' b).toInt < ce ∧ 0 ≤ (m' b).toInt ∧ (m' b).toInt ≤ 9 ∧ 0 ≤ (k' b).toInt ∧ (k' b).toInt ≤ 1) ∧ ∀ a b : Nat, a < b → (b : Int) < n'.toInt → c' a ≠ c' b
def N_found (f p f' p' : Int32) : Prop := f = f' ∧ p = p' ∧ 0 ≤ f'.toInt ∧ f'.toInt < 64
def N_tape (n n' : Int32) (t t' : Nat → Int32) : Prop := n = n' ∧ 0 ≤ n'.toInt ∧ n'.toInt ≤ 120 ∧ ∀ k : Nat, k < 120 → t k = t' k ∧ 0 ≤ (t' k).toInt ∧ (t' k).toInt ≤ 255
/-- hearings (h of them) that are so in a land of ce cells -/
def N_hr (n n' : Int32) (s c v : Nat → Int32) (t : Nat → Int32) (ce : Int) : Prop := n = n' ∧ 0 ≤ n'.toInt ∧ n'.toInt ≤ 10 ∧ ∀ h : Nat, (h : Int) < n'.toInt → s h = t (3 * h) ∧ c h = t (3 * h + 1) ∧ v h = t (3 * h + 2) ∧ 0 ≤ (s h).toInt ∧ (s h).toInt < 1000 ∧ (s h).toInt % 100 < ce ∧ 0 ≤ (c h).toInt ∧ (c h).toInt < ce ∧ 0 ≤ (v h).toInt ∧ (v h).toInt ≤ 99
def N_img (k k' f p f' p' n n' : Int32) (s c v : Nat → Int32) (t : Nat → Int32) (ce : Int) : Prop := k = k' ∧ (k' = 0 ∨ k' = 1) ∧ (k' = 1 → N_hr n n' s c v t ce ∧ N_found f p f' p')
/-- where the reference keeps what a change is of -/
def i_wh (n w : Int) : Int := if w = 0 then n else if w = 1 then 25 + n else if w = 2 then 50 + n else 53 + w
def i_mx (w : Int) : Int := if w = 1 then 99 else if w = 4 then 1 else if w = 5 then 99 else 9
def N_chg (d u d' kp : Int32) (n w b a at' was is : Nat → Int32) (ce nb : Int) : Prop := d = d' ∧ 0 ≤ d'.toInt ∧ d'.toInt ≤ kp.toInt ∧ kp.toInt ≤ 40 ∧ u.toInt = kp.toInt - d'.toInt ∧ ∀ k : Nat, (k : Int) < kp.toInt → b k = was k ∧ a k = is k ∧ (at' k).toInt = i_wh (n k).toInt (w k).toInt ∧ 0 ≤ (w k).toInt ∧ (w k).toInt ≤ 6 ∧ 0 ≤ (n k).toInt ∧ ((w k).toInt ≤ 1 → (n k).toInt < ce) ∧ ((w k).toInt = 2 → (n k).toInt < nb) ∧ (3 ≤ (w k).toInt → (n k).toInt = 0) ∧ 0 ≤ (was k).toInt ∧ (was k).toInt ≤ i_mx (w k).toInt ∧ 0 ≤ (is k).toInt ∧ (is k).toInt ≤ i_mx (w k).toInt
def N_vill (t t' : Nat → Int32) : Prop := ∀ v : Nat, v < 6 → t v = t' v ∧ 0 ≤ (t' v).toInt ∧ (t' v).toInt ≤ 9999
def N_body (n n' : Int32) (k k' : Nat → Int32) : Prop := n = n' ∧ 0 ≤ n'.toInt ∧ n'.toInt ≤ 50 ∧ ∀ b : Nat, b < 50 → k b = k' b ∧ 0 ≤ (k' b).toInt ∧ (k' b).toInt ≤ 7
def N_ran (r r' : Int32) (t t' : Nat → Int32) : Prop := r = r' ∧ 0 ≤ r'.toInt ∧ ∀ k : Nat, k < 24 → t k = t' k
/-- what a row of a sort can hold -/
def i_hd (s : Int) (x : Int64) : Prop := (s = 0 → -128 ≤ x.toInt ∧ x.toInt ≤ 127)
def N_shelf (so le bo sh ma : Nat → Int32) (el it : Nat → Int64) (nb : Int) : Prop := ∀ d : Nat, d < 6 → le d = ma d ∧ 0 ≤ (ma d).toInt ∧ (ma d).toInt ≤ 60 ∧ (∀ k : Nat, (k : Int) < (ma d).toInt → el (60 * d + k) = it (60 * d + k) ∧ i_hd (so d).toInt (it (60 * d + k))) ∧ (((so d).toInt = -1 ∧ (sh d).toInt = -1 ∧ (ma d).toInt = 0) ∨ ((so d).toInt = 5 ∧ sh d = bo d ∧ 0 ≤ (sh d).toInt ∧ (sh d).toInt < nb ∧ (ma d).toInt = 0) ∨ (0 ≤ (so d).toInt ∧ (so d).toInt ≤ 4 ∧ (sh d).toInt = 50 + (so d).toInt))
section EQS
variable {M : I_M} {c b nc : Int32}
theorem e_cells : b_Land_cells M = some (M.1 1 0 * M.1 1 1, M) := rfl
theorem e_rcells : r_cells M = some (M.1 50 6 * M.1 50 7, M) := rfl
theorem e_has : b_Land_has c M = some (i_bo (0 ≤ c.toInt ∧ c.toInt < i_ce (M.1 1 0) (M.1 1 1)), M) := by
  unfold b_Land_has i_ce
  rw [e_cells]
  dsimp only [Option.bind_some]
  simp only [a_lt, Int32.toInt_zero]
  by_cases h1 : c.toInt < 0
  · rw [if_pos h1, bo_n (by omega)]
  · rw [if_neg h1]
    by_cases h2 : c.toInt < (M.1 1 0 * M.1 1 1).toInt
    · rw [if_pos h2, bo_p (by omega)]
    · rw [if_neg h2, bo_n (by omega)]
theorem e_isCell (hc : 1 ≤ i_ce (M.1 50 6) (M.1 50 7)) : r_isCell c M = some (i_bo (0 ≤ c.toInt ∧ c.toInt < i_ce (M.1 50 6) (M.1 50 7)), M) := by
  unfold i_ce at *
  unfold r_isCell
  rw [e_rcells]
  dsimp only [Option.bind_some]
  rw [r_within_e]
  dsimp only [Option.bind_some]
  have h : ((M.1 50 6 * M.1 50 7) - (1 : Int32)).toInt = (M.1 50 6 * M.1 50 7).toInt - 1 := by
    have := a_rg (M.1 50 6 * M.1 50 7)
    rw [a_sub] <;> simp only [Int32.toInt_one] <;> omega
  rw [a_l, a_l, h, Int64.toInt_zero]
  by_cases h1 : 0 ≤ c.toInt ∧ c.toInt ≤ (M.1 50 6 * M.1 50 7).toInt - 1
  · rw [bo_p h1, bo_p (by omega)]
    rfl
  · rw [bo_n h1, bo_n (by omega)]
    rfl
theorem e_bhas : b_Buried_has b M = some (i_bo (0 ≤ b.toInt ∧ b.toInt < (M.1 13 6).toInt), M) := by
  unfold b_Buried_has
  simp only [a_lt, Int32.toInt_zero]
  by_cases h1 : b.toInt < 0
  · rw [if_pos h1, bo_n (by omega)]
  · rw [if_neg h1]
    by_cases h2 : b.toInt < (M.1 13 6).toInt
    · rw [if_pos h2, bo_p (by omega)]
    · rw [if_neg h2, bo_n (by omega)]
theorem e_hhas : b_Hearings_has_18 b M = some (i_bo (0 ≤ b.toInt ∧ b.toInt < (M.1 18 3).toInt), M) := by
  unfold b_Hearings_has_18
  simp only [a_lt, Int32.toInt_zero]
  by_cases h1 : b.toInt < 0
  · rw [if_pos h1, bo_n (by omega)]
  · rw [if_neg h1]
    by_cases h2 : b.toInt < (M.1 18 3).toInt
    · rw [if_pos h2, bo_p (by omega)]
    · rw [if_neg h2, bo_n (by omega)]
theorem a_s1 {x : Int32} (h : 0 ≤ x.toInt) : (x - (1 : Int32)).toInt = x.toInt - 1 := by
  have := a_rg x
  rw [a_sub] <;> simp only [Int32.toInt_one] <;> omega
theorem a_a1 {x : Int32} (h : x.toInt < 2147483647) : (x + (1 : Int32)).toInt = x.toInt + 1 := by
  have := a_rg x
  rw [a_add] <;> simp only [Int32.toInt_one] <;> omega
theorem e_isBell (hc : 0 ≤ (M.1 50 8).toInt) : r_isBell b M = some (i_bo (0 ≤ b.toInt ∧ b.toInt < (M.1 50 8).toInt), M) := by
  unfold r_isBell
  rw [r_within_e]
  dsimp only [Option.bind_some]
  rw [a_l, a_l, a_s1 hc, Int64.toInt_zero]
  by_cases h1 : 0 ≤ b.toInt ∧ b.toInt ≤ (M.1 50 8).toInt - 1
  · rw [bo_p h1, bo_p (by omega)]
    rfl
  · rw [bo_n h1, bo_n (by omega)]
    rfl
theorem e_strike : b_Land_isStrike nc M = some (i_bo (0 ≤ nc.toInt ∧ nc.toInt < 1000 ∧ nc.toInt % 100 < i_ce (M.1 1 0) (M.1 1 1)), M) := by
  unfold b_Land_isStrike
  simp only [a_lt, Int32.toInt_zero]
  by_cases h1 : nc.toInt < 0
  · rw [if_pos h1, bo_n (by omega)]
  · rw [if_neg h1]
    have e100 : (100 : Int32).toInt = 100 := rfl
    have hd : (nc / 100).toInt = nc.toInt / 100 := by rw [a_div (by omega) (by rw [e100]; omega), e100]
    have hr : (i_rem nc 100).toInt = nc.toInt % 100 := by rw [a_rem (by omega) (by rw [e100]; omega), e100]
    simp only [hd, e_has, hr, show (10 : Int32).toInt = 10 from rfl]
    by_cases h2 : nc.toInt / 100 < 10
    · rw [if_pos h2]
      dsimp only [Option.bind_some]
      by_cases h3 : nc.toInt % 100 < i_ce (M.1 1 0) (M.1 1 1)
      · rw [bo_p (by omega), bo_p (by omega)]
        rfl
      · rw [bo_n (by omega), bo_n (by omega)]
        rfl
    · rw [if_neg h2, bo_n (by omega)]
theorem e_isNc (hc : 1 ≤ i_ce (M.1 50 6) (M.1 50 7)) : r_isNc nc M = some (i_bo (0 ≤ nc.toInt ∧ nc.toInt < 1000 ∧ nc.toInt % 100 < i_ce (M.1 50 6) (M.1 50 7)), M) := by
  unfold r_isNc
  rw [r_within_e]
  dsimp only [Option.bind_some]
  rw [a_l, Int64.toInt_zero, show (999 : Int64).toInt = 999 from rfl]
  by_cases h1 : 0 ≤ nc.toInt ∧ nc.toInt ≤ 999
  · rw [bo_p h1, if_neg (by decide), e_isCell hc]
    dsimp only [Option.bind_some]
    have e100 : (100 : Int32).toInt = 100 := rfl
    have hr : (i_rem nc 100).toInt = nc.toInt % 100 := by rw [a_rem (by omega) (by rw [e100]; omega), e100]
    rw [hr]
    by_cases h3 : nc.toInt % 100 < i_ce (M.1 50 6) (M.1 50 7)
    · rw [bo_p (by omega), bo_p (by omega)]
      rfl
    · rw [bo_n (by omega), bo_n (by omega)]
      rfl
  · rw [bo_n h1, bo_n (by omega)]
    rfl
theorem e_isIn {s : Int32} : r_isIn s b M = some (i_bo (((s >>> (b &&& 31)) &&& (1 : Int32)) = 1), M) := by
  unfold r_isIn i_bo
  split <;> rfl
end EQS
theorem i_ce_ok {a b : Int32} (h1 : 1 ≤ a.toInt) (h2 : a.toInt ≤ 5) (h3 : 1 ≤ b.toInt) (h4 : b.toInt ≤ 5) : i_ce a b = a.toInt * b.toInt ∧ 1 ≤ i_ce a b ∧ i_ce a b ≤ 25 := by
  have h5 : 1 * 1 ≤ a.toInt * b.toInt := Int.mul_le_mul h1 h3 (by omega) (by omega)
  have h6 : a.toInt * b.toInt ≤ 5 * 5 := Int.mul_le_mul h2 h4 (by omega) (by omega)
  unfold i_ce
  rw [a_mul (by omega) (by omega)]
  omega
