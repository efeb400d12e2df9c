/-! ===== part 41: a text read: the parser that both follow ===== -/
abbrev i_V := (Nat → Int32) → Int32
abbrev i_R := Sum Nat (List Int32 × i_V × Nat)
def i_rb (r : i_R) (k : List Int32 → i_V → Nat → i_R) : i_R := match r with
  | Sum.inl f => Sum.inl f
  | Sum.inr x => k x.1 x.2.1 x.2.2
def i_ri (P : Nat → Prop) (Q : List Int32 → i_V → Nat → Prop) (r : i_R) : Prop := match r with
  | Sum.inl f => P f
  | Sum.inr x => Q x.1 x.2.1 x.2.2
theorem ri_rb {P : Nat → Prop} {Q : List Int32 → i_V → Nat → Prop} {r : i_R} {k : List Int32 → i_V → Nat → i_R} (h : i_ri P (fun c v p => i_ri P Q (k c v p)) r) : i_ri P Q (i_rb r k) := by
  cases r <;> exact h
theorem ri_mono {P P' : Nat → Prop} {Q Q' : List Int32 → i_V → Nat → Prop} {r : i_R} (h : i_ri P Q r) (h1 : ∀ f, P f → P' f) (h2 : ∀ c v p, Q c v p → Q' c v p) : i_ri P' Q' r := by
  cases r with
  | inl f => exact h1 f h
  | inr x => exact h2 _ _ _ h
def p_ah (t : Nat → Int32) (n p : Nat) : Int32 := if p < n then t p else -1
def p_lvl (x : Int32) : Int32 := if x = 37 then 4 else if x = 38 then 1 else if x = 42 then 4 else if x = 43 then 3 else if x = 45 then 3 else if x = 47 then 4 else if x = 60 then 2 else if x = 61 then 2 else if x = 62 then 2 else if x = 124 then 0 else -1
def p_op (x a b : Int32) : Int32 := if x = 37 then (if b = 0 then 0 else i_rem a b) else if x = 38 then (if a = 0 then 0 else if b = 0 then 0 else 1) else if x = 42 then a * b else if x = 43 then a + b else if x = 45 then a - b else if x = 47 then (if b = 0 then 0 else a / b) else if x = 60 then (if a < b then 1 else 0) else if x = 61 then (if a = b then 1 else 0) else if x = 62 then (if b < a then 1 else 0) else if x = 124 then (if a = 0 then (if b = 0 then 0 else 1) else 1) else 0
def p_nm (x : Int32) : Int32 := if x = 100 then 0 else if x = 103 then 1 else if x = 113 then 2 else if x = 122 then 3 else if x = 115 then 4 else if x = 119 then 5 else if x = 102 then 6 else -1
def p_num (ah : Nat → Int32) : Nat → Int32 → Nat → Int32 × Nat
  | 0, v, p => (v, p)
  | m + 1, v, p => if 48 ≤ (ah p).toInt ∧ (ah p).toInt ≤ 57 then p_num ah m (v * 10 + ah p - 48) (p + 1) else (v, p)
def p_loop (ah : Nat → Int32) (sub : Nat → i_R) (l : Int32) : Nat → List Int32 → i_V → Nat → i_R
  | 0, c, v, p => Sum.inr (c, v, p)
  | m + 1, c, v, p => if p_lvl (ah p) = l then
      i_rb (sub (p + 1)) (fun c2 v2 p2 => if l = 2 then Sum.inr (c ++ (c2 ++ [-(ah p)]), (fun e => p_op (ah p) (v e) (v2 e)), p2)
        else p_loop ah sub l m (c ++ (c2 ++ [-(ah p)])) (fun e => p_op (ah p) (v e) (v2 e)) p2)
      else Sum.inr (c, v, p)
def p_part (ah : Nat → Int32) (one : Nat → i_R) : Nat → Nat → i_R
  | 0, p => one p
  | j + 1, p => i_rb (p_part ah one j p) (fun c v p1 => p_loop ah (p_part ah one j) (Int32.ofNat (4 - j)) 121 c v p1)
def p_oneB (ah : Nat → Int32) (inner : Option (Nat → i_R)) (p : Nat) : i_R :=
  if 48 ≤ (ah p).toInt ∧ (ah p).toInt ≤ 57 then Sum.inr ([(p_num ah 4 0 p).1], (fun _ => (p_num ah 4 0 p).1), (p_num ah 4 0 p).2)
  else if 0 ≤ (p_nm (ah p)).toInt then Sum.inr ([-(400 + p_nm (ah p))], (fun e => e (Int32.toNatClampNeg (p_nm (ah p)))), p + 1)
  else match inner with
    | none => Sum.inl p
    | some one => if ah p = 33 ∨ ah p = 45 then i_rb (one (p + 1)) (fun c v p2 => Sum.inr (c ++ [if ah p = 33 then -33 else -300], (fun e => if ah p = 33 then (if v e = 0 then 1 else 0) else -(v e)), p2))
      else if ah p = 40 then i_rb (p_part ah one 5 (p + 1)) (fun c v p2 => if ah p2 = 41 then Sum.inr (c, v, p2 + 1) else Sum.inl p2)
      else Sum.inl p
def p_one (ah : Nat → Int32) : Nat → Nat → i_R
  | 0 => p_oneB ah none
  | m + 1 => p_oneB ah (some (p_one ah m))
/-- a line: what it gives, if it does -/
def p_line (ah : Nat → Int32) (p : Nat) : Sum Nat (List Int32 × ((Nat → Int32) → Option Int32) × Nat) :=
  match p_part ah (p_one ah 6) 5 p with
  | Sum.inl f => Sum.inl f
  | Sum.inr x => if ah x.2.2 = 63 then
      (match p_part ah (p_one ah 6) 5 (x.2.2 + 1) with
       | Sum.inl f => Sum.inl f
       | Sum.inr y => Sum.inr (x.1 ++ ([-63] ++ (y.1 ++ [-59])), (fun e => if x.2.1 e = 0 then none else some (y.2.1 e)), y.2.2))
      else Sum.inr (x.1 ++ [-59], (fun e => some (x.2.1 e)), x.2.2)
/-- the bound of a part: it goes on, stays in the text, gives no more steps than bytes -/
def PI (n : Nat) (r : Nat → i_R) : Prop := ∀ p, p ≤ n → i_ri (fun f => f ≤ n) (fun c _ p2 => p < p2 ∧ p2 ≤ n ∧ c.length + p ≤ p2) (r p)
section PARSE
variable {ah : Nat → Int32} {n : Nat} {sub one : Nat → i_R} {l : Int32}
theorem lvl_neg : p_lvl (-1) = -1 := by decide
theorem PI_loop (hA : ∀ p, n ≤ p → ah p = -1) (hl : l ≠ -1) (hs : PI n sub) (p0 : Nat) : ∀ m c v p, p ≤ n → p0 < p → c.length + p0 ≤ p → i_ri (fun f => f ≤ n) (fun c _ p2 => p0 < p2 ∧ p2 ≤ n ∧ c.length + p0 ≤ p2) (p_loop ah sub l m c v p) := by
  intro m
  induction m with
  | zero => exact fun c v p h1 h2 h3 => ⟨h2, h1, h3⟩
  | succ m ih =>
    intro c v p h1 h2 h3
    unfold p_loop
    by_cases q : p_lvl (ah p) = l
    · rw [if_pos q]
      have hp : p < n := by
        by_cases hp : p < n
        · exact hp
        · rw [hA p (by omega), lvl_neg] at q
          exact absurd q.symm hl
      refine ri_rb (ri_mono (hs (p + 1) hp) (fun _ h => h) (fun c2 v2 p2 h => ?_))
      have hlen : (c ++ (c2 ++ [-(ah p)])).length = c.length + (c2.length + 1) := by simp
      by_cases q2 : l = 2
      · rw [if_pos q2]
        exact (show p0 < p2 ∧ p2 ≤ n ∧ (c ++ (c2 ++ [-(ah p)])).length + p0 ≤ p2 from ⟨by omega, h.2.1, by omega⟩)
      · rw [if_neg q2]
        exact ih _ _ _ h.2.1 (by omega) (by omega)
    · rw [if_neg q]
      exact ⟨h2, h1, h3⟩
theorem lv_ne {j : Nat} (h : j ≤ 4) : Int32.ofNat (4 - j) ≠ -1 := by
  intro e
  have := congrArg Int32.toInt e
  rw [a_on (by omega)] at this
  have l1 : (-1 : Int32).toInt = -1 := rfl
  omega
theorem PI_part (hA : ∀ p, n ≤ p → ah p = -1) (h1 : PI n one) : ∀ j, j ≤ 5 → PI n (p_part ah one j) := by
  intro j
  induction j with
  | zero => exact fun _ => h1
  | succ j ih =>
    intro hj p hp
    have := ih (by omega)
    show i_ri _ _ (i_rb (p_part ah one j p) _)
    refine ri_rb (ri_mono (this p hp) (fun _ h => h) (fun c v p1 h => ?_))
    exact PI_loop hA (lv_ne (by omega)) this p 121 c v p1 h.2.1 h.1 h.2.2
theorem num_pos (hA : ∀ p, n ≤ p → ah p = -1) : ∀ m v p, p ≤ n → p ≤ (p_num ah m v p).2 ∧ (p_num ah m v p).2 ≤ n ∧ (1 ≤ m → 48 ≤ (ah p).toInt ∧ (ah p).toInt ≤ 57 → p < (p_num ah m v p).2) := by
  intro m
  induction m with
  | zero => exact fun v p h => ⟨Nat.le_refl p, h, fun h => absurd h (by omega)⟩
  | succ m ih =>
    intro v p h
    unfold p_num
    by_cases q : 48 ≤ (ah p).toInt ∧ (ah p).toInt ≤ 57
    · rw [if_pos q]
      have hp : p < n := by
        by_cases hp : p < n
        · exact hp
        · rw [hA p (by omega)] at q
          exact absurd q (by decide)
      obtain ⟨a, b, _⟩ := ih (v * 10 + ah p - 48) (p + 1) hp
      exact ⟨by omega, b, fun _ _ => by omega⟩
    · rw [if_neg q]
      exact ⟨Nat.le_refl p, h, fun _ h2 => absurd h2 q⟩
theorem PI_oneB (hA : ∀ p, n ≤ p → ah p = -1) {inner : Option (Nat → i_R)} (h1 : ∀ r, inner = some r → PI n r) : PI n (p_oneB ah inner) := by
  intro p hp
  unfold p_oneB
  have hlt : ah p ≠ -1 → p < n := fun h => by
    by_cases hp : p < n
    · exact hp
    · exact absurd (hA p (by omega)) h
  by_cases q1 : 48 ≤ (ah p).toInt ∧ (ah p).toInt ≤ 57
  · rw [if_pos q1]
    obtain ⟨a, b, c⟩ := num_pos hA 4 0 p hp
    have := c (by omega) q1
    exact (show p < (p_num ah 4 0 p).2 ∧ (p_num ah 4 0 p).2 ≤ n ∧ 1 + p ≤ (p_num ah 4 0 p).2 from ⟨this, b, by omega⟩)
  rw [if_neg q1]
  by_cases q2 : 0 ≤ (p_nm (ah p)).toInt
  · rw [if_pos q2]
    have : p < n := hlt (fun h => by rw [h] at q2; exact absurd q2 (by decide))
    exact (show p < p + 1 ∧ p + 1 ≤ n ∧ 1 + p ≤ p + 1 from ⟨by omega, by omega, by omega⟩)
  rw [if_neg q2]
  cases inner with
  | none => exact hp
  | some r =>
    have hr := h1 r rfl
    dsimp only
    by_cases q3 : ah p = 33 ∨ ah p = 45
    · rw [if_pos q3]
      have : p < n := hlt (fun h => by rw [h] at q3; exact absurd q3 (by decide))
      refine ri_rb (ri_mono (hr (p + 1) this) (fun _ h => h) (fun c2 v2 p2 h => ?_))
      have hl : (c2 ++ [if ah p = 33 then (-33 : Int32) else -300]).length = c2.length + 1 := by rw [List.length_append, List.length_singleton]
      exact (show p < p2 ∧ p2 ≤ n ∧ (c2 ++ [if ah p = 33 then (-33 : Int32) else -300]).length + p ≤ p2 from ⟨by omega, h.2.1, by omega⟩)
    rw [if_neg q3]
    by_cases q4 : ah p = 40
    · rw [if_pos q4]
      have : p < n := hlt (fun h => by rw [h] at q4; exact absurd q4 (by decide))
      refine ri_rb (ri_mono (PI_part hA hr 5 (by omega) (p + 1) this) (fun _ h => h) (fun c2 v2 p2 h => ?_))
      by_cases q5 : ah p2 = 41
      · rw [if_pos q5]
        have : p2 < n := by
          by_cases hp : p2 < n
          · exact hp
          · rw [hA p2 (by omega)] at q5
            exact absurd q5 (by decide)
        exact (show p < p2 + 1 ∧ p2 + 1 ≤ n ∧ c2.length + p ≤ p2 + 1 from ⟨by omega, by omega, by omega⟩)
      · rw [if_neg q5]
        exact h.2.1
    · rw [if_neg q4]
      exact hp
theorem PI_one (hA : ∀ p, n ≤ p → ah p = -1) : ∀ m, PI n (p_one ah m) := by
  intro m
  induction m with
  | zero => exact PI_oneB hA (fun r h => by cases h)
  | succ m ih => exact PI_oneB hA (fun r h => by cases h; exact ih)
end PARSE
