/-! ===== part 43: the tape follows the parser, on ===== -/
section TAPE2
variable {M : I_M} {n f : Nat} {rec1 : Int32 → Int32 → I_M → Option I_M} {rec2 : Int32 → I_M → Option I_M} {lv o : Int32} {sub one : Nat → i_R}
theorem ah_neg {t : Nat → Int32} : ∀ p, n ≤ p → p_ah t n p = -1 := fun p h => if_neg (by omega)
theorem L21_F (hlv : lv ≠ -1) (hf : f < 1000) {b : I_M} (h : p_F M f b) {F : Nat} {l3 : Int32} : T (b_Tape_readPart_b_L21 rec1 rec2 lv o (F + 1) l3 b) (p_F M f) := by
  unfold b_Tape_readPart_b_L21
  refine T_if (fun _ => ?_) (fun _ => T_some h)
  rw [pF_ah h hf]
  dsimp only [Option.bind_some]
  rw [lvl_e]
  dsimp only [Option.bind_some]
  rw [if_neg (fun q => hlv (q.symm.trans lvl_neg))]
  exact T_some h
theorem C_loop (hn : (M.1 6 1).toInt = n) (h120 : n ≤ 120) (hlv : lv ≠ -1) (hs : p_C M n (rec1 (lv + 1) o) sub) (hI : PI n sub) : ∀ (m F : Nat) (l3 : Int32) (p : Nat) (c0 c : List Int32) (v : i_V), n - p < m → n - p < F → p ≤ n → 0 ≤ l3.toInt → l3.toInt ≤ p → (c0 ++ c).length ≤ p →
    T (b_Tape_readPart_b_L21 rec1 rec2 lv o F l3 (p_S M p (c0 ++ c))) (p_Q M c0 (p_loop (p_ah (M.1 7) n) sub lv m c v p)) := by
  intro m
  induction m with
  | zero => exact fun F l3 p c0 c v h => absurd h (by omega)
  | succ m ih =>
    intro F l3 p c0 c v h1 h2 h3 h4 h5 h6
    obtain ⟨F, rfl⟩ : ∃ k, F = k + 1 := ⟨F - 1, by omega⟩
    have l120 : (120 : Int32).toInt = 120 := rfl
    unfold b_Tape_readPart_b_L21 p_loop
    by_cases h7 : l3.toInt < 120
    · rw [if_pos (by rw [a_lt]; omega), pS_ah hn h120 h3]
      dsimp only [Option.bind_some]
      rw [lvl_e]
      dsimp only [Option.bind_some]
      by_cases q : p_lvl (p_ah (M.1 7) n p) = lv
      · rw [if_pos q, if_pos q]
        have hp : p < n := by
          by_cases hp : p < n
          · exact hp
          · rw [ah_neg p (by omega), lvl_neg] at q
            exact absurd q.symm hlv
        rw [pS_ah hn h120 h3]
        dsimp only [Option.bind_some]
        rw [pS_mv (by omega)]
        have ht := hs (p + 1) (c0 ++ c) hp (by omega)
        have hi := hI (p + 1) hp
        generalize sub (p + 1) = r at ht hi ⊢
        refine T_bind (T_mono ht (fun a ha => ?_))
        cases r with
        | inl e =>
          have hi : e ≤ n := hi
          refine T_bind (T_mono (pF_st ha) (fun b hb => ?_))
          refine T_if (fun _ => T_some hb) (fun _ => ?_)
          obtain ⟨F, rfl⟩ : ∃ k, F = k + 1 := ⟨F - 1, by omega⟩
          exact L21_F hlv (by omega) hb
        | inr x =>
          obtain ⟨c2, v2, p2⟩ := x
          have ha : a = p_S M p2 (c0 ++ c ++ c2) := ha
          have hi : p + 1 < p2 ∧ p2 ≤ n ∧ c2.length + (p + 1) ≤ p2 := hi
          have hl : (c0 ++ c ++ c2).length = (c0 ++ c).length + c2.length := List.length_append
          subst ha
          refine T_bind (T_ok (pS_st (by omega)) ?_)
          have e : c0 ++ c ++ c2 ++ [-(p_ah (M.1 7) n p)] = c0 ++ (c ++ (c2 ++ [-(p_ah (M.1 7) n p)])) := by simp
          rw [e]
          show T _ (p_Q M c0 (if lv = 2 then _ else _))
          by_cases q2 : lv = 2
          · rw [if_pos q2, if_pos q2]
            exact T_some rfl
          · rw [if_neg q2, if_neg q2]
            have e3 : (l3 + 1).toInt = l3.toInt + 1 := a_a1 (by omega)
            have e4 : (c0 ++ (c ++ (c2 ++ [-(p_ah (M.1 7) n p)]))).length = (c0 ++ c).length + (c2.length + 1) := by simp; omega
            exact ih F (l3 + 1) p2 c0 _ _ (by omega) (by omega) hi.2.1 (by omega) (by omega) (by omega)
      · rw [if_neg q, if_neg q]
        exact T_some rfl
    · rw [if_neg (by rw [a_lt]; omega), if_neg (by rw [ah_neg p (by omega), lvl_neg]; exact fun q => hlv q.symm)]
      exact T_some rfl
theorem C_part (hn : (M.1 6 1).toInt = n) (h120 : n ≤ 120) {F0 : Nat} (hone : ∀ F, F0 ≤ F → p_C M n ((b_tapeT F).2 o) one) (hI : PI n one) : ∀ j, j ≤ 5 → ∀ F, F0 + j + 1 ≤ F → p_C M n ((b_tapeT F).1 (Int32.ofNat (5 - j)) o) (p_part (p_ah (M.1 7) n) one j) := by
  intro j
  induction j with
  | zero =>
    intro _ F hF p c hp hc
    obtain ⟨F, rfl⟩ : ∃ k, F = k + 1 := ⟨F - 1, by omega⟩
    show T (b_Tape_readPart_b (b_tapeT F).1 (b_tapeT F).2 (Int32.ofNat 5) o (p_S M p c)) (p_Q M c (one p))
    unfold b_Tape_readPart_b
    rw [if_neg (by decide)]
    exact T_bind (T_mono (hone F (by omega) p c hp hc) (fun a ha => T_some ha))
  | succ j ih =>
    intro hj F hF p c hp hc
    obtain ⟨F, rfl⟩ : ∃ k, F = k + 1 := ⟨F - 1, by omega⟩
    rw [show 5 - (j + 1) = 4 - j by omega]
    show T (b_Tape_readPart_b (b_tapeT F).1 (b_tapeT F).2 (Int32.ofNat (4 - j)) o (p_S M p c)) (p_Q M c (i_rb (p_part (p_ah (M.1 7) n) one j p) (fun c v p1 => p_loop (p_ah (M.1 7) n) (p_part (p_ah (M.1 7) n) one j) (Int32.ofNat (4 - j)) 121 c v p1)))
    have e0 : (Int32.ofNat (4 - j)).toInt = ((4 - j : Nat) : Int) := a_on (by omega)
    have l5 : (5 : Int32).toInt = 5 := rfl
    have e1 : Int32.ofNat (4 - j) + 1 = Int32.ofNat (5 - j) := by
      rw [a_eq, a_a1 (by omega), e0, a_on (by omega)]
      omega
    unfold b_Tape_readPart_b
    rw [if_pos (by rw [a_lt]; omega)]
    have ht := ih (by omega) F (by omega) p c hp hc
    rw [← e1] at ht
    have hi := PI_part (ah := p_ah (M.1 7) n) ah_neg hI j (by omega) p hp
    have hs : p_C M n ((b_tapeT F).1 (Int32.ofNat (4 - j) + 1) o) (p_part (p_ah (M.1 7) n) one j) := by
      rw [e1]
      exact ih (by omega) F (by omega)
    generalize p_part (p_ah (M.1 7) n) one j p = r at ht hi ⊢
    refine T_bind (T_mono ht (fun a ha => ?_))
    cases r with
    | inl e =>
      have hi : e ≤ n := hi
      exact L21_F (lv_ne (by omega)) (by omega) ha
    | inr x =>
      obtain ⟨c2, v2, p2⟩ := x
      have ha : a = p_S M p2 (c ++ c2) := ha
      have hi : p < p2 ∧ p2 ≤ n ∧ c2.length + p ≤ p2 := hi
      subst ha
      exact C_loop hn h120 (lv_ne (by omega)) hs (PI_part ah_neg hI j (by omega)) 121 i_F 0 p2 c c2 v2 (by omega) (by unfold i_F; omega) hi.2.1 (by decide) (by rw [Int32.toInt_zero]; omega) (by rw [List.length_append]; omega)
theorem C_num (hn : (M.1 6 1).toInt = n) (h120 : n ≤ 120) {k48 : Int32 → I_M → Option I_M} {P : I_M → Prop} {c : List Int32} : ∀ (m : Nat) (v : Int32) (p F : Nat) (l2 : Int32), m ≤ 4 → m < F → l2.toInt = 4 - m → p ≤ n → T (k48 (p_num (p_ah (M.1 7) n) m v p).1 (p_S M (p_num (p_ah (M.1 7) n) m v p).2 c)) P → T (b_Tape_readNumber_L4 k48 F v l2 (p_S M p c)) P := by
  intro m
  have l4 : (4 : Int32).toInt = 4 := rfl
  induction m with
  | zero =>
    intro v p F l2 h1 h2 h3 h4 hk
    obtain ⟨F, rfl⟩ : ∃ k, F = k + 1 := ⟨F - 1, by omega⟩
    unfold b_Tape_readNumber_L4
    rw [if_neg (by rw [a_lt]; omega)]
    exact hk
  | succ m ih =>
    intro v p F l2 h1 h2 h3 h4 hk
    obtain ⟨F, rfl⟩ : ∃ k, F = k + 1 := ⟨F - 1, by omega⟩
    unfold p_num at hk
    unfold b_Tape_readNumber_L4
    rw [if_pos (by rw [a_lt]; omega), pS_ah hn h120 h4]
    dsimp only [Option.bind_some]
    rw [dg_e]
    dsimp only [Option.bind_some]
    by_cases q : 48 ≤ (p_ah (M.1 7) n p).toInt ∧ (p_ah (M.1 7) n p).toInt ≤ 57
    · rw [if_pos q] at hk
      rw [bo_p q, if_neg (by decide), pS_ah hn h120 h4]
      dsimp only [Option.bind_some]
      have hp : p < n := by
        by_cases hp : p < n
        · exact hp
        · rw [ah_neg p (by omega)] at q
          exact absurd q (by decide)
      rw [pS_mv (by omega)]
      exact ih _ _ _ _ (by omega) (by omega) (by rw [a_a1 (by omega)]; omega) hp hk
    · rw [if_neg q] at hk
      rw [bo_n q, if_pos rfl]
      exact hk
end TAPE2
