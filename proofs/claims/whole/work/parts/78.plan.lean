/-! ===== part 78: what the table tells ===== -/
/-- the table holds for all sets -/
def k_ok (f : Nat → Nat) (D nb : Nat) (T0 : Nat → Nat) : Prop := ∀ s, s < 2 ^ nb → T0 s = k_st f D T0 s nb
/-- a strikes bell: from s on to more -/
def k_ca (f : Nat → Nat) (s a : Nat) : Prop := s.testBit a = true ∧ s ||| f a ≠ s
section KT
variable {f : Nat → Nat} {D nb : Nat} {T0 : Nat → Nat} {s : Nat}
theorem kst_D (hD : c_cl f nb D) : ∀ j, j ≤ nb → k_st f D T0 D j = 0 := by
  intro j
  induction j with
  | zero => exact fun _ => if_pos rfl
  | succ j ih =>
    intro hj
    show (if D.testBit j = true ∧ D ||| f j ≠ D then min (k_st f D T0 D j) (T0 (D ||| f j) + 1) else k_st f D T0 D j) = 0
    rw [ih (by omega)]
    split
    · exact Nat.zero_min _
    · rfl
theorem kst_le {a : Nat} (ha : k_ca f s a) : ∀ j, a < j → k_st f D T0 s j ≤ T0 (s ||| f a) + 1 := by
  intro j
  induction j with
  | zero => exact fun h => absurd h (by omega)
  | succ j ih =>
    intro hj
    show (if s.testBit j = true ∧ s ||| f j ≠ s then min (k_st f D T0 s j) (T0 (s ||| f j) + 1) else k_st f D T0 s j) ≤ _
    by_cases q : a = j
    · subst q
      have ha' : s.testBit a = true ∧ s ||| f a ≠ s := ha
      rw [if_pos ha']
      exact Nat.min_le_right _ _
    · have := ih (by omega)
      split
      · exact Nat.le_trans (Nat.min_le_left _ _) this
      · exact this
theorem kst_ex (hs : s ≠ D) : ∀ j, k_st f D T0 s j = 99 ∨ ∃ a, a < j ∧ k_ca f s a ∧ k_st f D T0 s j = T0 (s ||| f a) + 1 := by
  intro j
  induction j with
  | zero => exact Or.inl (if_neg hs)
  | succ j ih =>
    have e : k_st f D T0 s (j + 1) = if s.testBit j = true ∧ s ||| f j ≠ s then min (k_st f D T0 s j) (T0 (s ||| f j) + 1) else k_st f D T0 s j := rfl
    by_cases q : s.testBit j = true ∧ s ||| f j ≠ s
    · rw [if_pos q] at e
      by_cases z : k_st f D T0 s j ≤ T0 (s ||| f j) + 1
      · rw [Nat.min_eq_left z] at e
        rw [e]
        rcases ih with h | ⟨a, h1, h2, h3⟩
        · exact Or.inl h
        · exact Or.inr ⟨a, by omega, h2, h3⟩
      · rw [Nat.min_eq_right (by omega)] at e
        exact Or.inr ⟨j, by omega, q, e⟩
    · rw [if_neg q] at e
      rw [e]
      rcases ih with h | ⟨a, h1, h2, h3⟩
      · exact Or.inl h
      · exact Or.inr ⟨a, by omega, h2, h3⟩
theorem kT_D (h : k_ok f D nb T0) (hD : c_cl f nb D) (hD2 : D < 2 ^ nb) : T0 D = 0 := (h D hD2).trans (kst_D hD nb (Nat.le_refl nb))
theorem kT_pos (h : k_ok f D nb T0) (hs : s < 2 ^ nb) (hne : s ≠ D) : 1 ≤ T0 s := by
  rw [h s hs]
  rcases kst_ex (f := f) (T0 := T0) hne nb with q | ⟨a, _, _, q⟩ <;> omega
theorem kT_le (h : k_ok f D nb T0) (hs : s < 2 ^ nb) {a : Nat} (ha : a < nb) (hc : k_ca f s a) : T0 s ≤ T0 (s ||| f a) + 1 := by
  rw [h s hs]
  exact kst_le hc nb ha
/-- from a set on its way to D there are few strikes -/
theorem kT_few (h : k_ok f D nb T0) (hf : ∀ a, f a < 2 ^ nb) (hDc : c_cl f nb D) (hD : D < 2 ^ nb) {c0 : Nat} (hleast : ∀ x, c_cl f nb x → c_sub c0 x → c_sub D x) : ∀ d s, c_n nb D - c_n nb s ≤ d → s < 2 ^ nb → c_sub c0 s → c_sub s D → T0 s ≤ d := by
  intro d
  induction d with
  | zero =>
    intro s h1 h2 h3 h4
    by_cases q : s = D
    · rw [q, kT_D h hDc hD]
      exact Nat.le_refl 0
    · have := n_ne h4 q hD
      omega
  | succ d ih =>
    intro s h1 h2 h3 h4
    by_cases q : s = D
    · rw [q, kT_D h hDc hD]
      omega
    · have : ∃ a, a < nb ∧ k_ca f s a := by
        refine Classical.byContradiction (fun hx => q (sub_as h4 (hleast s (fun a ha hb => ?_) h3)))
        have : s ||| f a = s := Classical.byContradiction (fun hy => hx ⟨a, ha, hb, hy⟩)
        have := (sub_r : c_sub (f a) (s ||| f a))
        rw [‹s ||| f a = s›] at this
        exact this
      obtain ⟨a, ha, hc⟩ := this
      have hlt := n_lt h2 (hf a)
      have hin : c_sub (s ||| f a) D := sub_or h4 (hDc a ha (h4 a hc.1))
      have := ih (s ||| f a) (by have := n_ne (sub_l : c_sub s (s ||| f a)) (fun e => hc.2 e.symm) hlt; omega) hlt (sub_tr h3 sub_l) hin
      have := kT_le h h2 ha hc
      omega
end KT
/-- the first bell whose strike leads on -/
def k_f1 (f : Nat → Nat) (T0 : Nat → Nat) (s : Nat) : Nat → Nat → Nat
  | 0, _ => 0
  | j + 1, a => if s.testBit a = true ∧ T0 (s ||| f a) + 1 = T0 s then a else k_f1 f T0 s j (a + 1)
/-- the row of strikes that the table leads to -/
def k_R (f : Nat → Nat) (T0 : Nat → Nat) (nb : Nat) : Nat → Nat → Int32 → Int32
  | 0, _, row => row
  | n + 1, s, row => k_R f T0 nb n (s ||| f (k_f1 f T0 s nb 0)) (10 * row + Int32.ofNat (k_f1 f T0 s nb 0) + 1)
theorem f1_e {f T0 : Nat → Nat} {s a : Nat} (h1 : s.testBit a = true ∧ T0 (s ||| f a) + 1 = T0 s) (h2 : ∀ b, b < a → ¬ (s.testBit b = true ∧ T0 (s ||| f b) + 1 = T0 s)) : ∀ j b, b ≤ a → a < b + j → k_f1 f T0 s j b = a := by
  intro j
  induction j with
  | zero => exact fun b _ h => absurd h (by omega)
  | succ j ih =>
    intro b hb1 hb2
    unfold k_f1
    by_cases q : b = a
    · rw [q, if_pos h1]
    · rw [if_neg (h2 b (by omega))]
      exact ih (b + 1) (by omega) (by omega)
theorem f1_x {f T0 : Nat → Nat} {s nb : Nat} (h : ∃ a, a < nb ∧ s.testBit a = true ∧ T0 (s ||| f a) + 1 = T0 s) : k_f1 f T0 s nb 0 < nb ∧ s.testBit (k_f1 f T0 s nb 0) = true ∧ T0 (s ||| f (k_f1 f T0 s nb 0)) + 1 = T0 s ∧ ∀ b, b < k_f1 f T0 s nb 0 → ¬ (s.testBit b = true ∧ T0 (s ||| f b) + 1 = T0 s) := by
  have key : ∀ j b, (∃ a, b ≤ a ∧ a < b + j ∧ s.testBit a = true ∧ T0 (s ||| f a) + 1 = T0 s) → b ≤ k_f1 f T0 s j b ∧ k_f1 f T0 s j b < b + j ∧ s.testBit (k_f1 f T0 s j b) = true ∧ T0 (s ||| f (k_f1 f T0 s j b)) + 1 = T0 s ∧ ∀ x, b ≤ x → x < k_f1 f T0 s j b → ¬ (s.testBit x = true ∧ T0 (s ||| f x) + 1 = T0 s) := by
    intro j
    induction j with
    | zero => exact fun b ⟨a, h1, h2, _⟩ => absurd h2 (by omega)
    | succ j ih =>
      intro b ⟨a, h1, h2, h3, h4⟩
      unfold k_f1
      by_cases q : s.testBit b = true ∧ T0 (s ||| f b) + 1 = T0 s
      · rw [if_pos q]
        exact ⟨Nat.le_refl b, by omega, q.1, q.2, fun x hx hx2 => absurd hx2 (by omega)⟩
      · rw [if_neg q]
        have hab : a ≠ b := fun e => q (by rw [← e]; exact ⟨h3, h4⟩)
        obtain ⟨r1, r2, r3, r4, r5⟩ := ih (b + 1) ⟨a, by omega, by omega, h3, h4⟩
        refine ⟨by omega, by omega, r3, r4, fun x hx hx2 => ?_⟩
        by_cases w : x = b
        · rw [w]
          exact q
        · exact r5 x (by omega) hx2
  obtain ⟨a, h1, h2, h3⟩ := h
  obtain ⟨_, r2, r3, r4, r5⟩ := key nb 0 ⟨a, by omega, by omega, h2, h3⟩
  exact ⟨by omega, r3, r4, fun b hb => r5 b (by omega) hb⟩
