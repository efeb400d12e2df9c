/-! ===== part 73: sets of bells as bits; what grows until nothing grows ===== -/
theorem n_or : ∀ x, x < 64 → ∀ y, y < 64 → Int32.ofNat x ||| Int32.ofNat y = Int32.ofNat (x ||| y) := by decide +kernel
theorem n_sh : ∀ b, b < 6 → (1 : Int32) <<< (Int32.ofNat b &&& 31) = Int32.ofNat (2 ^ b) := by decide +kernel
theorem n_bt : ∀ x, x < 64 → ∀ b, b < 6 → ((((Int32.ofNat x) >>> (Int32.ofNat b &&& 31)) &&& (1 : Int32)) = 1 ↔ x.testBit b = true) := by decide +kernel
theorem n_lt {x y n : Nat} (hx : x < 2 ^ n) (hy : y < 2 ^ n) : x ||| y < 2 ^ n := Nat.or_lt_two_pow hx hy
def c_sub (c d : Nat) : Prop := ∀ b, c.testBit b = true → d.testBit b = true
theorem sub_rf {c : Nat} : c_sub c c := fun _ h => h
theorem sub_tr {c d e : Nat} (h : c_sub c d) (h2 : c_sub d e) : c_sub c e := fun b hb => h2 b (h b hb)
theorem sub_as {c d : Nat} (h : c_sub c d) (h2 : c_sub d c) : c = d := by
  refine Nat.eq_of_testBit_eq (fun b => ?_)
  cases hc : c.testBit b with
  | true => rw [h b hc]
  | false =>
    cases hd : d.testBit b with
    | true => rw [h2 b hd] at hc; cases hc
    | false => rfl
theorem sub_l {c d : Nat} : c_sub c (c ||| d) := fun b hb => by rw [Nat.testBit_or, hb]; rfl
theorem sub_r {c d : Nat} : c_sub d (c ||| d) := fun b hb => by rw [Nat.testBit_or, hb, Bool.or_true]
theorem sub_or {c d e : Nat} (h : c_sub c e) (h2 : c_sub d e) : c_sub (c ||| d) e := fun b hb => by
  rw [Nat.testBit_or, Bool.or_eq_true] at hb
  rcases hb with hb | hb
  · exact h b hb
  · exact h2 b hb
/-- one round in place, one round from a set that is held -/
def c_g (f : Nat → Nat) (n c : Nat) : Nat := i_it (fun a c => if c.testBit a = true then c ||| f a else c) n c
def c_h (f : Nat → Nat) (k n c : Nat) : Nat := i_it (fun a x => if k.testBit a = true then x ||| f a else x) n c
def c_cl (f : Nat → Nat) (n c : Nat) : Prop := ∀ a, a < n → c.testBit a = true → c_sub (f a) c
section SETS
variable {f : Nat → Nat} {n m c d k : Nat}
theorem g_up : ∀ n c, c_sub c (c_g f n c) := by
  intro n
  induction n with
  | zero => exact fun c => sub_rf
  | succ n ih =>
    intro c
    show c_sub c (if (c_g f n c).testBit n = true then c_g f n c ||| f n else c_g f n c)
    split
    · exact sub_tr (ih c) sub_l
    · exact ih c
theorem h_up : ∀ n c, c_sub c (c_h f k n c) := by
  intro n
  induction n with
  | zero => exact fun c => sub_rf
  | succ n ih =>
    intro c
    show c_sub c (if k.testBit n = true then c_h f k n c ||| f n else c_h f k n c)
    split
    · exact sub_tr (ih c) sub_l
    · exact ih c
theorem g_in (hd : c_cl f m d) (hcd : c_sub c d) : ∀ n, n ≤ m → c_sub (c_g f n c) d := by
  intro n
  induction n with
  | zero => exact fun _ => hcd
  | succ n ih =>
    intro hn
    show c_sub (if (c_g f n c).testBit n = true then c_g f n c ||| f n else c_g f n c) d
    have := ih (by omega)
    split
    · rename_i q
      exact sub_or this (hd n (by omega) (this n q))
    · exact this
theorem h_in (hd : c_cl f m d) (hkd : c_sub k d) (hcd : c_sub c d) : ∀ n, n ≤ m → c_sub (c_h f k n c) d := by
  intro n
  induction n with
  | zero => exact fun _ => hcd
  | succ n ih =>
    intro hn
    show c_sub (if k.testBit n = true then c_h f k n c ||| f n else c_h f k n c) d
    have := ih (by omega)
    split
    · rename_i q
      exact sub_or this (hd n (by omega) (hkd n q))
    · exact this
theorem g_mono : ∀ n m, n ≤ m → c_sub (c_g f n c) (c_g f m c) := by
  intro n m h
  induction m with
  | zero =>
    have : n = 0 := by omega
    subst this
    exact sub_rf
  | succ m ih =>
    by_cases q : n = m + 1
    · subst q
      exact sub_rf
    · refine sub_tr (ih (by omega)) ?_
      show c_sub (c_g f m c) (if (c_g f m c).testBit m = true then c_g f m c ||| f m else c_g f m c)
      split
      · exact sub_l
      · exact sub_rf
theorem h_mono : ∀ n m, n ≤ m → c_sub (c_h f k n c) (c_h f k m c) := by
  intro n m h
  induction m with
  | zero =>
    have : n = 0 := by omega
    subst this
    exact sub_rf
  | succ m ih =>
    by_cases q : n = m + 1
    · subst q
      exact sub_rf
    · refine sub_tr (ih (by omega)) ?_
      show c_sub (c_h f k m c) (if k.testBit m = true then c_h f k m c ||| f m else c_h f k m c)
      split
      · exact sub_l
      · exact sub_rf
theorem g_fix (h : c_g f n c = c) : c_cl f n c := by
  intro a ha hb
  have e0 := g_mono (f := f) (c := c) a n (by omega)
  rw [h] at e0
  have e : c_g f a c = c := sub_as e0 (g_up a c)
  have e2 : c_sub (c_g f (a + 1) c) c := by
    have := g_mono (f := f) (c := c) (a + 1) n (by omega)
    rw [h] at this
    exact this
  have e3 : c_g f (a + 1) c = c ||| f a := by
    show (if (c_g f a c).testBit a = true then c_g f a c ||| f a else c_g f a c) = _
    rw [e, if_pos hb]
  rw [e3] at e2
  exact sub_tr sub_r e2
theorem h_fix (h : c_h f c n c = c) : c_cl f n c := by
  intro a ha hb
  have e2 : c_sub (c_h f c (a + 1) c) c := by
    have := h_mono (f := f) (k := c) (c := c) (a + 1) n (by omega)
    rw [h] at this
    exact this
  have e3 : c_h f c (a + 1) c = c_h f c a c ||| f a := by
    show (if c.testBit a = true then c_h f c a c ||| f a else c_h f c a c) = _
    rw [if_pos hb]
  rw [e3] at e2
  exact sub_tr sub_r e2
theorem g_lt (hf : ∀ a, f a < 2 ^ m) (hc : c < 2 ^ m) : ∀ n, c_g f n c < 2 ^ m := by
  intro n
  induction n with
  | zero => exact hc
  | succ n ih =>
    show (if (c_g f n c).testBit n = true then c_g f n c ||| f n else c_g f n c) < 2 ^ m
    split
    · exact n_lt ih (hf n)
    · exact ih
theorem h_lt (hf : ∀ a, f a < 2 ^ m) (hc : c < 2 ^ m) : ∀ n, c_h f k n c < 2 ^ m := by
  intro n
  induction n with
  | zero => exact hc
  | succ n ih =>
    show (if k.testBit n = true then c_h f k n c ||| f n else c_h f k n c) < 2 ^ m
    split
    · exact n_lt ih (hf n)
    · exact ih
/-- how many bits -/
def c_n : Nat → Nat → Nat
  | 0, _ => 0
  | n + 1, c => c_n n c + (if c.testBit n = true then 1 else 0)
theorem n_le : ∀ n, c_n n c ≤ n := by
  intro n
  induction n with
  | zero => exact Nat.le_refl 0
  | succ n ih =>
    show c_n n c + (if c.testBit n = true then 1 else 0) ≤ n + 1
    split <;> omega
theorem n_mo (h : c_sub c d) : ∀ n, c_n n c ≤ c_n n d := by
  intro n
  induction n with
  | zero => exact Nat.le_refl 0
  | succ n ih =>
    show c_n n c + (if c.testBit n = true then 1 else 0) ≤ c_n n d + (if d.testBit n = true then 1 else 0)
    by_cases q : c.testBit n = true
    · rw [if_pos q, if_pos (h n q)]
      omega
    · rw [if_neg q]
      omega
theorem n_st (h : c_sub c d) {b : Nat} (hb : d.testBit b = true) (hb2 : ¬ c.testBit b = true) : ∀ n, b < n → c_n n c < c_n n d := by
  intro n
  induction n with
  | zero => exact fun h => absurd h (by omega)
  | succ n ih =>
    intro hn
    show c_n n c + (if c.testBit n = true then 1 else 0) < c_n n d + (if d.testBit n = true then 1 else 0)
    by_cases e : b = n
    · subst e
      rw [if_neg hb2, if_pos hb]
      have := n_mo h b
      omega
    · have := ih (by omega)
      by_cases q : c.testBit n = true
      · rw [if_pos q, if_pos (h n q)]
        omega
      · rw [if_neg q]
        omega
theorem n_ne (h : c_sub c d) (hne : c ≠ d) (hd : d < 2 ^ m) : c_n m c < c_n m d := by
  have : ∃ b, d.testBit b = true ∧ ¬ c.testBit b = true := by
    refine Classical.byContradiction (fun hx => hne (sub_as h (fun b hb => ?_)))
    exact Classical.byContradiction (fun hb2 => hx ⟨b, hb, hb2⟩)
  obtain ⟨b, hb, hb2⟩ := this
  refine n_st h hb hb2 m ?_
  refine Classical.byContradiction (fun hx => ?_)
  rw [Nat.testBit_lt_two_pow (Nat.lt_of_lt_of_le hd (Nat.pow_le_pow_right (by omega) (by omega)))] at hb
  cases hb
/-- the rounds in place -/
def c_r (f : Nat → Nat) (n : Nat) : Nat → Nat → Nat
  | 0, c => c
  | k + 1, c => c_g f n (c_r f n k c)
theorem r_lt (hf : ∀ a, f a < 2 ^ m) (hc : c < 2 ^ m) : ∀ k, c_r f n k c < 2 ^ m := by
  intro k
  induction k with
  | zero => exact hc
  | succ k ih => exact g_lt hf ih n
theorem r_up : ∀ k, c_sub c (c_r f n k c) := by
  intro k
  induction k with
  | zero => exact sub_rf
  | succ k ih => exact sub_tr ih (g_up n _)
theorem r_in (hd : c_cl f n d) (hcd : c_sub c d) : ∀ k, c_sub (c_r f n k c) d := by
  intro k
  induction k with
  | zero => exact hcd
  | succ k ih => exact g_in hd ih n (Nat.le_refl n)
theorem r_cl (hf : ∀ a, f a < 2 ^ n) (hc : c < 2 ^ n) : c_cl f n (c_r f n n c) := by
  have key : ∀ k, c_g f n (c_r f n k c) = c_r f n k c ∨ k ≤ c_n n (c_r f n k c) := by
    intro k
    induction k with
    | zero => exact Or.inr (Nat.zero_le _)
    | succ k ih =>
      rcases ih with h | h
      · left
        show c_g f n (c_g f n (c_r f n k c)) = c_g f n (c_r f n k c)
        rw [h, h]
      · by_cases q : c_g f n (c_r f n k c) = c_r f n k c
        · left
          show c_g f n (c_g f n (c_r f n k c)) = c_g f n (c_r f n k c)
          rw [q, q]
        · right
          have := n_ne (g_up n (c_r f n k c)) (fun h => q h.symm) (g_lt hf (r_lt hf hc k) n)
          show k + 1 ≤ c_n n (c_g f n (c_r f n k c))
          omega
  rcases key n with h | h
  · exact g_fix h
  · by_cases q : c_g f n (c_r f n n c) = c_r f n n c
    · exact g_fix q
    · have := n_ne (g_up n (c_r f n n c)) (fun h => q h.symm) (g_lt hf (r_lt hf hc n) n)
      have := n_le (c := c_g f n (c_r f n n c)) n
      omega
/-- the least closed set with all of c in it -/
theorem r_least (hf : ∀ a, f a < 2 ^ n) (hc : c < 2 ^ n) {x : Nat} (h1 : c_sub c x) (h2 : c_cl f n x) (h3 : ∀ d, c_cl f n d → c_sub c d → c_sub x d) : x = c_r f n n c :=
  sub_as (h3 _ (r_cl hf hc) (r_up n)) (r_in h2 h1 n)
end SETS
