/-! ===== part 45: the tape follows the parser: whole texts ===== -/
abbrev i_Li := (Nat → Int32) → Option Int32
def p_lines (ah : Nat → Int32) : Nat → Nat → Sum Nat (List Int32 × List i_Li × Nat)
  | 0, p => Sum.inl p
  | m + 1, p => match p_line ah p with
    | Sum.inl f => Sum.inl f
    | Sum.inr x => if ah x.2.2 = 59 then
        (match p_lines ah m (x.2.2 + 1) with
         | Sum.inl f => Sum.inl f
         | Sum.inr y => Sum.inr (x.1 ++ y.1, x.2.1 :: y.2.1, y.2.2))
        else Sum.inr (x.1, [x.2.1], x.2.2)
def p_text (ah : Nat → Int32) (n : Nat) : Sum Nat (List Int32 × List i_Li) := match p_lines ah 122 0 with
  | Sum.inl f => Sum.inl f
  | Sum.inr y => if y.2.2 < n then Sum.inl y.2.2 else Sum.inr (y.1, y.2.1)
section TEXT
variable {M : I_M} {n : Nat}
theorem PI_lines {ah : Nat → Int32} (hA : ∀ p, n ≤ p → ah p = -1) : ∀ m p, n - p < m → p ≤ n → PIL n p (p_lines ah m p) := by
  intro m
  induction m with
  | zero => exact fun p h => absurd h (by omega)
  | succ m ih =>
    intro p h1 h2
    unfold p_lines
    have hl := PI_line hA h2
    generalize p_line ah p = r at hl ⊢
    cases r with
    | inl f => exact hl
    | inr x =>
      obtain ⟨c, v, p1⟩ := x
      have hl : p < p1 ∧ p1 ≤ n ∧ c.length + p ≤ p1 + 1 := hl
      dsimp only
      by_cases q : ah p1 = 59
      · rw [if_pos q]
        have hp1 : p1 < n := by
          by_cases hp : p1 < n
          · exact hp
          · rw [hA p1 (by omega)] at q
            exact absurd q (by decide)
        have h3 := ih (p1 + 1) (by omega) hp1
        generalize p_lines ah m (p1 + 1) = r at h3 ⊢
        cases r with
        | inl f => exact h3
        | inr y =>
          obtain ⟨c2, v2, p2⟩ := y
          have h3 : p1 + 1 < p2 ∧ p2 ≤ n ∧ c2.length + (p1 + 1) ≤ p2 + 1 := h3
          have hle : (c ++ c2).length = c.length + c2.length := List.length_append
          exact (show p < p2 ∧ p2 ≤ n ∧ (c ++ c2).length + p ≤ p2 + 1 from ⟨by omega, h3.2.1, by omega⟩)
      · rw [if_neg q]
        exact hl
theorem C_lines (hn : (M.1 6 1).toInt = n) (h120 : n ≤ 120) (hB : ∀ k, k < 120 → 0 ≤ (M.1 7 k).toInt ∧ (M.1 7 k).toInt ≤ 255) {k56 : I_M → Option (Int32 × I_M)} {P : Int32 × I_M → Prop} : ∀ (m F : Nat) (l1 : Int32) (p : Nat) (c : List Int32), n - p < m → n - p < F → p ≤ n → 1 ≤ l1.toInt → l1.toInt ≤ p + 1 → c.length ≤ p →
    (∀ M', p_QL M c (p_lines (p_ah (M.1 7) n) m p) M' → T (k56 M') P) → T (Option.bind (b_Tape_readLine (p_S M p c)) (fun q => b_Tape_readText_L21 k56 F l1 q)) P := by
  intro m
  induction m with
  | zero => exact fun F l1 p c h => absurd h (by omega)
  | succ m ih =>
    intro F l1 p c h1 h2 h3 h4 h5 h6 hk
    obtain ⟨F, rfl⟩ : ∃ k, F = k + 1 := ⟨F - 1, by omega⟩
    unfold p_lines at hk
    have hl := PI_line (ah := p_ah (M.1 7) n) ah_neg h3
    have ht := C_line hn h120 hB p c h3 h6
    generalize p_line (p_ah (M.1 7) n) p = r at hl ht hk
    refine T_bind (T_mono ht (fun a ha => ?_))
    have l120 : (120 : Int32).toInt = 120 := rfl
    cases r with
    | inl f =>
      have hl : f ≤ n := hl
      unfold b_Tape_readText_L21
      refine T_if (fun _ => hk a ha) (fun _ => ?_)
      rw [pF_ah ha (by omega)]
      dsimp only [Option.bind_some]
      rw [if_neg (by decide)]
      exact hk a ha
    | inr x =>
      obtain ⟨c2, v2, p1⟩ := x
      have ha : a = p_S M p1 (c ++ c2) := ha
      have hl : p < p1 ∧ p1 ≤ n ∧ c2.length + p ≤ p1 + 1 := hl
      have hle : (c ++ c2).length = c.length + c2.length := List.length_append
      subst ha
      unfold b_Tape_readText_L21
      rw [if_neg (by rw [a_lt]; omega), pS_ah hn h120 hl.2.1]
      dsimp only [Option.bind_some] at hk ⊢
      by_cases q : p_ah (M.1 7) n p1 = 59
      · rw [if_pos q]
        rw [if_pos q] at hk
        have hp1 : p1 < n := by
          by_cases hp : p1 < n
          · exact hp
          · rw [ah_neg p1 (by omega)] at q
            exact absurd q (by decide)
        rw [pS_mv (by omega)]
        refine ih F (l1 + 1) (p1 + 1) (c ++ c2) (by omega) (by omega) hp1 (by rw [a_a1 (by omega)]; omega) (by rw [a_a1 (by omega)]; omega) (by omega) (fun M' hM => hk M' ?_)
        generalize p_lines (p_ah (M.1 7) n) m (p1 + 1) = r at hM ⊢
        cases r with
        | inl f => exact hM
        | inr y =>
          obtain ⟨c3, v3, p2⟩ := y
          have hM : M' = p_S M p2 (c ++ c2 ++ c3) := hM
          rw [hM, List.append_assoc]
          rfl
      · rw [if_neg q]
        rw [if_neg q] at hk
        exact hk _ rfl
theorem readText_e (hn : (M.1 6 1).toInt = n) (h120 : n ≤ 120) (hB : ∀ k, k < 120 → 0 ≤ (M.1 7 k).toInt ∧ (M.1 7 k).toInt ≤ 255) : T (b_Tape_readText M) (fun q => match p_text (p_ah (M.1 7) n) n with
    | Sum.inl f => q.1 = Int32.ofNat f ∧ f ≤ n ∧ p_F M f q.2
    | Sum.inr y => q.1 = -1 ∧ y.1.length ≤ n + 1 ∧ q.2 = p_S M n y.1) := by
  unfold b_Tape_readText
  have e0 : i_wI (i_wI (i_wI M 6 4 0) 6 5 (-1)) 6 3 0 = p_S M 0 [] := by
    refine m_ext (fun q k => ?_) rfl
    rw [m_wI, m_wI, m_wI]
    unfold p_S i_rw upd
    by_cases h6 : q = 6
    · subst h6
      by_cases h3 : k = 3
      · subst h3
        rfl
      by_cases h5 : k = 5
      · subst h5
        rfl
      by_cases h4 : k = 4
      · subst h4
        rfl
      simp [h3, h4, h5]
    · simp only [h6, false_and, if_false]
      by_cases h8 : q = 8
      · rw [h8]
        rfl
      · rw [if_neg h8]
  rw [e0]
  have hl := PI_lines (n := n) (ah := p_ah (M.1 7) n) ah_neg 122 0 (by omega) (by omega)
  refine C_lines hn h120 hB 122 i_F 1 0 [] (by omega) (by unfold i_F; omega) (by omega) (by decide) (by decide) (by simp) (fun M' hM => ?_)
  unfold p_text
  generalize p_lines (p_ah (M.1 7) n) 122 0 = r at hl hM ⊢
  unfold b_Tape_readText_B56
  cases r with
  | inl f =>
    have hl : f ≤ n := hl
    have hM : p_F M f M' := hM
    have h5 : M'.1 6 5 = Int32.ofNat f := by
      obtain ⟨r8, x, y, h1, h2, rfl⟩ := hM
      rfl
    rw [pF_fl hM (by omega)]
    dsimp only [Option.bind_some]
    exact T_if (fun _ => T_some ⟨h5, hl, hM⟩) (fun _ => T_some ⟨h5, hl, hM⟩)
  | inr x =>
    obtain ⟨c, v, p1⟩ := x
    have hM : M' = p_S M p1 ([] ++ c) := hM
    have hl : 0 < p1 ∧ p1 ≤ n ∧ c.length + 0 ≤ p1 + 1 := hl
    rw [List.nil_append] at hM
    subst hM
    have e : (Int32.ofNat p1).toInt = p1 := a_on (by omega)
    dsimp only
    rw [pS_64, pS_61]
    by_cases q : p1 < n
    · rw [if_pos q, if_pos (by rw [a_lt]; omega)]
      refine T_bind (T_mono (pS_fl (by omega)) (fun a ha => T_some ?_))
      refine ⟨?_, by omega, ha⟩
      obtain ⟨r8, x, y, h1, h2, rfl⟩ := ha
      rfl
    · rw [if_neg q, if_neg (by rw [a_lt]; omega)]
      have : p1 = n := by omega
      subst this
      exact T_some ⟨rfl, (show c.length ≤ p1 + 1 by omega), rfl⟩
end TEXT
