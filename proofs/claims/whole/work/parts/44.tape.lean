/-! ===== part 44: the tape follows the parser: operands, lines, the text ===== -/
section TAPE3
variable {M : I_M} {n f : Nat} {o : Int32}
theorem ah_rg (hB : ∀ k, k < 120 → 0 ≤ (M.1 7 k).toInt ∧ (M.1 7 k).toInt ≤ 255) (h120 : n ≤ 120) (p : Nat) : p_ah (M.1 7) n p = -1 ∨ (p < n ∧ 0 ≤ (p_ah (M.1 7) n p).toInt ∧ (p_ah (M.1 7) n p).toInt ≤ 255) := by
  by_cases hp : p < n
  · right
    rw [show p_ah (M.1 7) n p = M.1 7 p from if_pos hp]
    exact ⟨hp, hB p (by omega)⟩
  · exact Or.inl (ah_neg p (by omega))
theorem nm_rg (x : Int32) : p_nm x = -1 ∨ (0 ≤ (p_nm x).toInt ∧ (p_nm x).toInt < 7) := by
  unfold p_nm
  repeat' split
  all_goals first | exact Or.inl rfl | exact Or.inr (by decide)
theorem C_oneB (hn : (M.1 6 1).toInt = n) (h120 : n ≤ 120) (hB : ∀ k, k < 120 → 0 ≤ (M.1 7 k).toInt ∧ (M.1 7 k).toInt ≤ 255) {F : Nat} {inner : Option (Nat → i_R)}
    (ho : (o.toInt = 6 ∧ inner = none) ∨ (0 ≤ o.toInt ∧ o.toInt < 6 ∧ ∃ r, inner = some r ∧ PI n r ∧ p_C M n ((b_tapeT F).2 (o + 1)) r ∧ p_C M n ((b_tapeT F).1 0 (o + 1)) (p_part (p_ah (M.1 7) n) r 5))) :
    p_C M n (b_Tape_readOperand_b (b_tapeT F).1 (b_tapeT F).2 o) (p_oneB (p_ah (M.1 7) n) inner) := by
  intro p c hp hc
  have l6 : (6 : Int32).toInt = 6 := rfl
  unfold b_Tape_readOperand_b
  rw [pS_ah hn h120 hp]
  dsimp only [Option.bind_some]
  have E : ∀ {R : I_M → Prop}, T (b_Tape_readOperand_b_B20 (b_tapeT F).1 (b_tapeT F).2 o (p_ah (M.1 7) n p) (p_nm (p_ah (M.1 7) n p)) (p_S M p c)) R → T (if p_ah (M.1 7) n p < 0 then b_Tape_readOperand_b_B20 (b_tapeT F).1 (b_tapeT F).2 o (p_ah (M.1 7) n p) (-1) (p_S M p c) else Option.bind (j_Str_indexOf (UInt32.toInt32 (Int32.toUInt32 (p_ah (M.1 7) n p) % 65536)) (p_S M p c)) (fun q23 => b_Tape_readOperand_b_B20 (b_tapeT F).1 (b_tapeT F).2 o (p_ah (M.1 7) n p) q23.1 q23.2)) R := by
    intro R h
    rcases ah_rg hB h120 p with g | g
    · rw [g] at h ⊢
      rw [if_pos (by decide)]
      exact h
    · rw [if_neg (by rw [a_lt, Int32.toInt_zero]; omega), io_e g.2.1 g.2.2]
      exact h
  refine E ?_
  have hlt : p_ah (M.1 7) n p ≠ -1 → p < n := fun h => by
    rcases ah_rg hB h120 p with g | g
    · exact absurd g h
    · exact g.1
  unfold b_Tape_readOperand_b_B20 p_oneB
  rw [dg_e]
  dsimp only [Option.bind_some]
  generalize hx : p_ah (M.1 7) n p = x at *
  by_cases q1 : 48 ≤ x.toInt ∧ x.toInt ≤ 57
  · rw [bo_p q1, if_neg (by decide), if_pos q1]
    refine T_bind ?_
    unfold b_Tape_readNumber
    have hnum := num_pos (ah := p_ah (M.1 7) n) ah_neg 4 0 p hp
    refine C_num hn h120 4 0 p i_F 0 (by omega) (by unfold i_F; omega) (by decide) hp ?_
    refine T_bind (T_ok (pS_st (by omega)) (T_some (T_some rfl)))
  rw [bo_n q1, if_pos rfl, if_neg q1]
  have l0 : (0 : Int32).toInt = 0 := rfl
  by_cases q2 : 0 ≤ (p_nm x).toInt
  · rw [if_neg (by rw [a_lt]; omega), if_pos q2]
    have hp2 : p < n := hlt (fun h => by rw [h] at q2; exact absurd q2 (by decide))
    rw [pS_mv (by omega)]
    exact T_bind (T_ok (pS_st (by omega)) (T_some rfl))
  rw [if_pos (by rw [a_lt]; omega), if_neg q2]
  rcases ho with ⟨h1, rfl⟩ | ⟨h0, h1, r, rfl, hI, hr1, hr2⟩
  · rw [if_neg (by rw [a_lt]; omega)]
    unfold b_Tape_readOperand_b_B118
    rw [if_neg (by rw [a_lt]; omega)]
    exact T_bind (T_mono (pS_fl (by omega)) (fun a ha => T_some ha))
  rw [if_pos (by rw [a_lt]; omega)]
  dsimp only
  by_cases q3 : x = 33 ∨ x = 45
  · rw [if_pos q3]
    have hp2 : p < n := hlt (fun h => by rw [h] at q3; exact absurd q3 (by decide))
    have B : T (b_Tape_readOperand_b_B80 (b_tapeT F).1 (b_tapeT F).2 o x (p_S M p c)) (p_Q M c (i_rb (r (p + 1)) (fun c v p2 => Sum.inr (c ++ [if x = 33 then -33 else -300], (fun e => if x = 33 then (if v e = 0 then 1 else 0) else -(v e)), p2)))) := by
      unfold b_Tape_readOperand_b_B80
      rw [pS_mv (by omega)]
      have ht := hr1 (p + 1) c hp2 (by omega)
      have hi := hI (p + 1) hp2
      generalize r (p + 1) = w at ht hi ⊢
      refine T_bind (T_mono ht (fun a ha => ?_))
      cases w with
      | inl e =>
        refine T_if (fun _ => ?_) (fun _ => ?_)
        · exact T_bind (T_mono (pF_st ha) (fun b hb => T_some hb))
        · exact T_bind (T_mono (pF_st ha) (fun b hb => T_some hb))
      | inr y =>
        obtain ⟨c2, v2, p2⟩ := y
        have ha : a = p_S M p2 (c ++ c2) := ha
        have hi : p + 1 < p2 ∧ p2 ≤ n ∧ c2.length + (p + 1) ≤ p2 := hi
        have hl : (c ++ c2).length = c.length + c2.length := List.length_append
        subst ha
        show T _ (p_Q M c (Sum.inr (c2 ++ [if x = 33 then -33 else -300], _, p2)))
        by_cases q : x = 33
        · rw [if_pos q, if_pos q]
          refine T_bind (T_ok (pS_st (by omega)) (T_some ?_))
          show p_S M p2 (c ++ c2 ++ [-33]) = p_S M p2 (c ++ (c2 ++ [-33]))
          rw [List.append_assoc]
        · rw [if_neg q, if_neg q]
          refine T_bind (T_ok (pS_st (by omega)) (T_some ?_))
          show p_S M p2 (c ++ c2 ++ [-300]) = p_S M p2 (c ++ (c2 ++ [-300]))
          rw [List.append_assoc]
    generalize p_Q M c (i_rb (r (p + 1)) (fun c v p2 => Sum.inr (c ++ [if x = 33 then -33 else -300], (fun e => if x = 33 then (if v e = 0 then 1 else 0) else -(v e)), p2))) = R at B ⊢
    by_cases q4 : x = 33
    · rw [if_pos q4]
      exact B
    · rw [if_neg q4, if_pos (by rcases q3 with g | g; exact absurd g q4; exact g)]
      exact B
  rw [if_neg q3, if_neg (fun h => q3 (Or.inl h)), if_neg (fun h => q3 (Or.inr h))]
  unfold b_Tape_readOperand_b_B118
  rw [if_pos (by rw [a_lt]; omega)]
  by_cases q4 : x = 40
  · rw [if_pos q4, if_pos q4]
    have hp2 : p < n := hlt (fun h => by rw [h] at q4; exact absurd q4 (by decide))
    rw [pS_mv (by omega)]
    have ht := hr2 (p + 1) c hp2 (by omega)
    have hi := PI_part (ah := p_ah (M.1 7) n) ah_neg hI 5 (by omega) (p + 1) hp2
    generalize p_part (p_ah (M.1 7) n) r 5 (p + 1) = w at ht hi ⊢
    refine T_bind (T_mono ht (fun a ha => ?_))
    cases w with
    | inl e =>
      have hi : e ≤ n := hi
      rw [pF_ah ha (by omega)]
      dsimp only [Option.bind_some]
      rw [if_neg (by decide), pF_fl ha (by omega)]
      exact T_some ha
    | inr y =>
      obtain ⟨c2, v2, p2⟩ := y
      have ha : a = p_S M p2 (c ++ c2) := ha
      have hi : p + 1 < p2 ∧ p2 ≤ n ∧ c2.length + (p + 1) ≤ p2 := hi
      have hl : (c ++ c2).length = c.length + c2.length := List.length_append
      subst ha
      rw [pS_ah hn h120 hi.2.1]
      dsimp only [Option.bind_some]
      show T _ (p_Q M c (if p_ah (M.1 7) n p2 = 41 then _ else _))
      by_cases q5 : p_ah (M.1 7) n p2 = 41
      · rw [if_pos q5, if_pos q5, pS_mv (by omega)]
        exact T_some rfl
      · rw [if_neg q5, if_neg q5]
        exact T_bind (T_mono (pS_fl (by omega)) (fun a ha => T_some ha))
  · rw [if_neg q4, if_neg q4]
    exact T_bind (T_mono (pS_fl (by omega)) (fun a ha => T_some ha))
theorem C_one (hn : (M.1 6 1).toInt = n) (h120 : n ≤ 120) (hB : ∀ k, k < 120 → 0 ≤ (M.1 7 k).toInt ∧ (M.1 7 k).toInt ≤ 255) : ∀ m, m ≤ 6 → ∀ F, 7 * m + 1 ≤ F → p_C M n ((b_tapeT F).2 (Int32.ofNat (6 - m))) (p_one (p_ah (M.1 7) n) m) := by
  intro m
  induction m with
  | zero =>
    intro _ F hF
    obtain ⟨F, rfl⟩ : ∃ k, F = k + 1 := ⟨F - 1, by omega⟩
    exact C_oneB hn h120 hB (Or.inl ⟨rfl, rfl⟩)
  | succ m ih =>
    intro hm F hF
    obtain ⟨F, rfl⟩ : ∃ k, F = k + 1 := ⟨F - 1, by omega⟩
    have e0 : (Int32.ofNat (6 - (m + 1))).toInt = ((6 - (m + 1) : Nat) : Int) := a_on (by omega)
    have e1 : Int32.ofNat (6 - (m + 1)) + 1 = Int32.ofNat (6 - m) := by
      rw [a_eq, a_a1 (by omega), e0, a_on (by omega)]
      omega
    refine C_oneB hn h120 hB (Or.inr ⟨by omega, by omega, p_one (p_ah (M.1 7) n) m, rfl, PI_one ah_neg m, ?_, ?_⟩)
    · rw [e1]
      exact ih (by omega) F (by omega)
    · rw [e1]
      exact C_part hn h120 (F0 := 7 * m + 1) (fun F hF => ih (by omega) F hF) (PI_one ah_neg m) 5 (by omega) F (by omega)
theorem C_E (hn : (M.1 6 1).toInt = n) (h120 : n ≤ 120) (hB : ∀ k, k < 120 → 0 ≤ (M.1 7 k).toInt ∧ (M.1 7 k).toInt ≤ 255) : p_C M n (b_Tape_readPart 60 0 0) (p_part (p_ah (M.1 7) n) (p_one (p_ah (M.1 7) n) 6) 5) := by
  exact C_part hn h120 (F0 := 43) (o := 0) (fun F hF => C_one hn h120 hB 6 (by omega) F (by omega)) (PI_one ah_neg 6) 5 (by omega) 60 (by omega)
/-- the same for lines and texts -/
def p_QL {α : Type} (M : I_M) (c : List Int32) (r : Sum Nat (List Int32 × α × Nat)) (M' : I_M) : Prop := match r with
  | Sum.inl f => p_F M f M'
  | Sum.inr x => M' = p_S M x.2.2 (c ++ x.1)
def PIL {α : Type} (n p : Nat) (r : Sum Nat (List Int32 × α × Nat)) : Prop := match r with
  | Sum.inl f => f ≤ n
  | Sum.inr x => p < x.2.2 ∧ x.2.2 ≤ n ∧ x.1.length + p ≤ x.2.2 + 1
theorem PI_line {ah : Nat → Int32} (hA : ∀ p, n ≤ p → ah p = -1) {p : Nat} (hp : p ≤ n) : PIL n p (p_line ah p) := by
  unfold p_line
  have h1 := PI_part hA (PI_one hA 6) 5 (by omega) p hp
  generalize p_part ah (p_one ah 6) 5 p = r at h1 ⊢
  cases r with
  | inl e => exact h1
  | inr x =>
    obtain ⟨c, v, p1⟩ := x
    have h1 : p < p1 ∧ p1 ≤ n ∧ c.length + p ≤ p1 := h1
    dsimp only
    by_cases q : ah p1 = 63
    · rw [if_pos q]
      have hp1 : p1 < n := by
        by_cases hp : p1 < n
        · exact hp
        · rw [hA p1 (by omega)] at q
          exact absurd q (by decide)
      have h2 := PI_part hA (PI_one hA 6) 5 (by omega) (p1 + 1) hp1
      generalize p_part ah (p_one ah 6) 5 (p1 + 1) = r at h2 ⊢
      cases r with
      | inl e => exact h2
      | inr y =>
        obtain ⟨c2, v2, p2⟩ := y
        have h2 : p1 + 1 < p2 ∧ p2 ≤ n ∧ c2.length + (p1 + 1) ≤ p2 := h2
        have hl : (c ++ ([-63] ++ (c2 ++ [-59]))).length = c.length + (c2.length + 2) := by simp
        exact ⟨by show p < p2; omega, h2.2.1, by show (c ++ ([-63] ++ (c2 ++ [-59]))).length + p ≤ p2 + 1; omega⟩
    · rw [if_neg q]
      have hl : (c ++ [-59]).length = c.length + 1 := by simp
      exact ⟨h1.1, h1.2.1, by show (c ++ [-59]).length + p ≤ p1 + 1; omega⟩
theorem C_line (hn : (M.1 6 1).toInt = n) (h120 : n ≤ 120) (hB : ∀ k, k < 120 → 0 ≤ (M.1 7 k).toInt ∧ (M.1 7 k).toInt ≤ 255) (p : Nat) (c : List Int32) (hp : p ≤ n) (hc : c.length ≤ p) : T (b_Tape_readLine (p_S M p c)) (p_QL M c (p_line (p_ah (M.1 7) n) p)) := by
  unfold b_Tape_readLine p_line
  have ht := C_E hn h120 hB p c hp hc
  have h1 := PI_part (ah := p_ah (M.1 7) n) ah_neg (PI_one (ah := p_ah (M.1 7) n) ah_neg 6) 5 (by omega) p hp
  generalize p_part (p_ah (M.1 7) n) (p_one (p_ah (M.1 7) n) 6) 5 p = r at h1 ht ⊢
  refine T_bind (T_mono ht (fun a ha => ?_))
  cases r with
  | inl e =>
    have h1 : e ≤ n := h1
    rw [pF_ah ha (by omega)]
    dsimp only [Option.bind_some]
    rw [if_neg (by decide)]
    exact T_bind (T_mono (pF_st ha) (fun b hb => T_some hb))
  | inr x =>
    obtain ⟨c2, v2, p1⟩ := x
    have ha : a = p_S M p1 (c ++ c2) := ha
    have h1 : p < p1 ∧ p1 ≤ n ∧ c2.length + p ≤ p1 := h1
    have hl : (c ++ c2).length = c.length + c2.length := List.length_append
    subst ha
    rw [pS_ah hn h120 h1.2.1]
    dsimp only [Option.bind_some]
    by_cases q : p_ah (M.1 7) n p1 = 63
    · rw [if_pos q, if_pos q]
      have hp1 : p1 < n := by
        by_cases hp : p1 < n
        · exact hp
        · rw [ah_neg p1 (by omega)] at q
          exact absurd q (by decide)
      rw [pS_mv (by omega), pS_st (by omega)]
      dsimp only [Option.bind_some]
      have hl2 : (c ++ c2 ++ [-63]).length = c.length + c2.length + 1 := by simp; omega
      have ht2 := C_E hn h120 hB (p1 + 1) (c ++ c2 ++ [-63]) hp1 (by omega)
      have h2 := PI_part (ah := p_ah (M.1 7) n) ah_neg (PI_one (ah := p_ah (M.1 7) n) ah_neg 6) 5 (by omega) (p1 + 1) hp1
      generalize p_part (p_ah (M.1 7) n) (p_one (p_ah (M.1 7) n) 6) 5 (p1 + 1) = r at h2 ht2 ⊢
      refine T_bind (T_mono ht2 (fun b hb => ?_))
      cases r with
      | inl e => exact T_bind (T_mono (pF_st hb) (fun b hb => T_some hb))
      | inr y =>
        obtain ⟨c3, v3, p2⟩ := y
        have hb : b = p_S M p2 (c ++ c2 ++ [-63] ++ c3) := hb
        have h2 : p1 + 1 < p2 ∧ p2 ≤ n ∧ c3.length + (p1 + 1) ≤ p2 := h2
        have hl3 : (c ++ c2 ++ [-63] ++ c3).length = c.length + c2.length + 1 + c3.length := by simp; omega
        subst hb
        refine T_bind (T_ok (pS_st (by omega)) (T_some ?_))
        show p_S M p2 (c ++ c2 ++ [-63] ++ c3 ++ [-59]) = p_S M p2 (c ++ (c2 ++ ([-63] ++ (c3 ++ [-59]))))
        congr 1
        simp
    · rw [if_neg q, if_neg q]
      refine T_bind (T_ok (pS_st (by omega)) (T_some ?_))
      show p_S M p1 (c ++ c2 ++ [-59]) = p_S M p1 (c ++ (c2 ++ [-59]))
      rw [List.append_assoc]
end TAPE3
